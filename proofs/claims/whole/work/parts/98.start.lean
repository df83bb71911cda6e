theorem fw_rc {n : Nat} (h : n ≤ 1000) : n ≤ room_1.cells := Nat.le_trans h (show 1000 ≤ 600000 by omega)
theorem fw_rs {n : Nat} (h : n ≤ 100000) : n ≤ room_1.slots := Nat.le_trans h (show 100000 ≤ 7302250 by omega)
theorem fw_rfr {n : Nat} (h : n ≤ 100) : n ≤ room_1.frames := Nat.le_trans h (show 100 ≤ 2048 by omega)
theorem fw_rlo {n : Nat} (h : n ≤ 1000) : n ≤ room_1.locals := Nat.le_trans h (show 1000 ≤ 84000 by omega)
theorem fw_lft {D : va_G} {a b : va_W} {H : Heap} (h : va_P D fw_cl (a ++ b) H) : va_P D fw_cl a H := fun k q hk => h k q (by rw [List.getElem?_append_left (List.getElem?_eq_some_iff.mp hk).1]; exact hk)
theorem fw_rgt {D : va_G} {a b : va_W} {H : Heap} (h : va_P D fw_cl (a ++ b) H) : va_P D fw_cl b H := fun k q hk => h (a.length + k) q (by rw [List.getElem?_append_right (Nat.le_add_right _ _), Nat.add_sub_cancel_left]; exact hk)
theorem fw_lftD {A : Nat → Prop} {a b : va_W} (h : va_D A (a ++ b)) : va_D A a := ⟨fun i j p q h1 h2 e => h.1 i j p q (by rw [List.getElem?_append_left (List.getElem?_eq_some_iff.mp h1).1]; exact h1) (by rw [List.getElem?_append_left (List.getElem?_eq_some_iff.mp h2).1]; exact h2) e, fun k q hk => h.2 k q (by rw [List.getElem?_append_left (List.getElem?_eq_some_iff.mp hk).1]; exact hk)⟩
theorem fw_rgtD {A : Nat → Prop} {a b : va_W} (h : va_D A (a ++ b)) : va_D A b := ⟨fun i j p q h1 h2 e => by
    have := h.1 (a.length + i) (a.length + j) p q (by rw [List.getElem?_append_right (Nat.le_add_right _ _), Nat.add_sub_cancel_left]; exact h1) (by rw [List.getElem?_append_right (Nat.le_add_right _ _), Nat.add_sub_cancel_left]; exact h2) e
    omega, fun k q hk => h.2 (a.length + k) q (by rw [List.getElem?_append_right (Nat.le_add_right _ _), Nat.add_sub_cancel_left]; exact hk)⟩
theorem fw_aprt {A : Nat → Prop} {a b : va_W} (h : va_D A (a ++ b)) {i j : Nat} {p q : Nat × va_E} (h1 : a[i]? = some p) (h2 : b[j]? = some q) : p.1 ≠ q.1 := by
  intro e
  have hi := (List.getElem?_eq_some_iff.mp h1).1
  have := h.1 i (a.length + j) p q (by rw [List.getElem?_append_left hi]; exact h1) (by rw [List.getElem?_append_right (Nat.le_add_right _ _), Nat.add_sub_cancel_left]; exact h2) e
  omega
def fw_rok (n : Nat) (s : fw_K) : Bool := match s with
  | .inl o => o.2.all (fun q => match q with | none => true | some r => decide (r < n))
  | .inr a => a.2.2.all (fun r => decide (r < n))
theorem fw_w_congr {sh : List fw_K} {ad ad2 : Nat → Nat} {dA : Nat → ClassId} {μ : fw_M} {n : Nat} (h : ∀ k, k < n → ad k = ad2 k) (hn : sh.length = n) (hs : sh.all (fw_rok n) = true) : fw_w sh ad dA μ = fw_w sh ad2 dA μ := by
  apply List.ext_getElem?
  intro k
  simp only [fw_w, List.getElem?_mapIdx]
  cases hk : sh[k]? with
  | none => rfl
  | some s =>
    have hlt : k < sh.length := (List.getElem?_eq_some_iff.mp hk).1
    have hm := List.all_eq_true.mp hs s (List.mem_of_getElem? hk)
    simp only [Option.map_some]
    rw [h k (by omega)]
    congr 2
    cases s with
    | inl o =>
      simp only [fw_ce]
      congr 2
      apply List.ext_getElem?
      intro i
      simp only [List.getElem?_mapIdx]
      cases hi : o.2[i]? with
      | none => rfl
      | some q =>
        have hq := List.all_eq_true.mp hm q (List.mem_of_getElem? hi)
        cases q with
        | none => rfl
        | some r => simp only [Option.map_some, fw_fe]; rw [h r (of_decide_eq_true hq)]
    | inr a =>
      have hf : (fun (i : Nat) => (a.2.2[i]?).map ad) = (fun (i : Nat) => (a.2.2[i]?).map ad2) := by
        funext i
        cases hi : a.2.2[i]? with
        | none => rfl
        | some r =>
          have hq := List.all_eq_true.mp hm r (List.mem_of_getElem? hi)
          simp only [Option.map_some]; rw [h r (of_decide_eq_true hq)]
      simp only [fw_ce, fw_ar, hf]

theorem cl_L_7 : Cond.classLink "FewTypesLaw" 7 "FewTypes" ∈ fw_tb := fw_m 73 (by decide +kernel) (by decide +kernel)
theorem in_X : Cond.instantiable "FewTypes" 13 ∈ fw_tb := fw_m 74 (by decide +kernel) (by decide +kernel)
theorem ii_X : Cond.initialized "FewTypes" ∈ fw_tb := fw_m 59 (by decide +kernel) (by decide +kernel)
theorem im_X : Cond.instanceMethod Y_X_init.1 ∈ fw_tb := fw_m 76 (by decide +kernel) (by decide +kernel)
theorem cd_X : Cond.code Y_X_init.1 Y_X_init.2.1 Y_X_init.2.2.1 Y_X_init.2.2.2 ∈ fw_tb := fw_m 77 (by decide +kernel) (by decide +kernel)
theorem mk_L_9 : Cond.methodLink "FewTypesLaw" 9 Y_X_init.1 ∈ fw_tb := fw_m 75 (by decide +kernel) (by decide +kernel)
theorem cl_L_10 : Cond.classLink "FewTypesLaw" 10 "FewTypesModel" ∈ fw_tb := fw_m 847 (by decide +kernel) (by decide +kernel)
theorem in_M : Cond.instantiable "FewTypesModel" 37 ∈ fw_tb := fw_m 848 (by decide +kernel) (by decide +kernel)
theorem ii_M : Cond.initialized "FewTypesModel" ∈ fw_tb := fw_m 70 (by decide +kernel) (by decide +kernel)
theorem im_M : Cond.instanceMethod Y_M_init.1 ∈ fw_tb := fw_m 850 (by decide +kernel) (by decide +kernel)
theorem cd_M : Cond.code Y_M_init.1 Y_M_init.2.1 Y_M_init.2.2.1 Y_M_init.2.2.2 ∈ fw_tb := fw_m 851 (by decide +kernel) (by decide +kernel)
theorem mk_L_12 : Cond.methodLink "FewTypesLaw" 12 Y_M_init.1 ∈ fw_tb := fw_m 849 (by decide +kernel) (by decide +kernel)
set_option maxHeartbeats 16000000 in
set_option maxRecDepth 100000 in
theorem fw_begin {I : Nat → fw_M → fw_M → Prop} (hO : fw_OK I) (h0 : I 0 fw_x0 fw_y0) {p : Program} {e : Env} {s : State} {m : MethodId} {below : List Frame} {meth : Method} {c : Code} (l : Launch) {b L : Nat} {xs : Nat → Int32} (hL : L ≤ 3072) (C0 : lw_At p s m meth c b L xs) : W p l e room_1 s m #[Value.ref b] below meth c s.heap [] 0 0 (lw_Z below #[Value.ref b] s) (entryFrame m ([Value.ref b] : List Value).toArray 4) := by
  obtain ⟨hx, hb, hr, hml, hown, htl, hX, hbl, hlocks, hgv⟩ := C0
  have hts : ∀ w ∈ fw_tb, w.before #[Value.ref b] s = true := fun w hw => htl w (List.mem_filter.mp hw).1
  have hs := flat_of_before _ hgv
  have hown : s.vm.findClass "FewTypesLaw" = some m.cls := hown
  have hcl : ∀ c : Nat, ∃ (cC : ClassId) (iS : Nat → Nat), ∀ q : vw_C, fw_cl[c]? = some q → u_Kn s q.1 q.2.1 q.2.2 cC iS := by
    intro c
    match c with
    | 0 => obtain ⟨cC, iS, h⟩ := u_known hts fw_i0 (htl (Cond.instantiable "FewTypes$Case" 4) (List.mem_of_getElem? (i := 88) (by decide +kernel))); exact ⟨cC, iS, fun q hq => by cases hq; exact h⟩
    | 1 => obtain ⟨cC, iS, h⟩ := u_known hts fw_i1 (htl (Cond.instantiable "FewTypes$Jobs" 4) (List.mem_of_getElem? (i := 140) (by decide +kernel))); exact ⟨cC, iS, fun q hq => by cases hq; exact h⟩
    | 2 => obtain ⟨cC, iS, h⟩ := u_known hts fw_i2 (htl (Cond.instantiable "FewTypes$Line" 3) (List.mem_of_getElem? (i := 115) (by decide +kernel))); exact ⟨cC, iS, fun q hq => by cases hq; exact h⟩
    | 3 => obtain ⟨cC, iS, h⟩ := u_known hts fw_i3 (htl (Cond.instantiable "FewTypes$Orders" 5) (List.mem_of_getElem? (i := 262) (by decide +kernel))); exact ⟨cC, iS, fun q hq => by cases hq; exact h⟩
    | 4 => obtain ⟨cC, iS, h⟩ := u_known hts fw_i4 (htl (Cond.instantiable "FewTypes$Press" 11) (List.mem_of_getElem? (i := 221) (by decide +kernel))); exact ⟨cC, iS, fun q hq => by cases hq; exact h⟩
    | 5 => obtain ⟨cC, iS, h⟩ := u_known hts fw_i5 (htl (Cond.instantiable "FewTypes$Sheet" 4) (List.mem_of_getElem? (i := 291) (by decide +kernel))); exact ⟨cC, iS, fun q hq => by cases hq; exact h⟩
    | 6 => obtain ⟨cC, iS, h⟩ := u_known hts fw_i6 (htl (Cond.instantiable "FewTypes$Shop" 8) (List.mem_of_getElem? (i := 82) (by decide +kernel))); exact ⟨cC, iS, fun q hq => by cases hq; exact h⟩
    | 7 => obtain ⟨cC, iS, h⟩ := u_known hts fw_i7 (htl (Cond.instantiable "FewTypes$Tape" 3) (List.mem_of_getElem? (i := 204) (by decide +kernel))); exact ⟨cC, iS, fun q hq => by cases hq; exact h⟩
    | 8 => obtain ⟨cC, iS, h⟩ := u_known hts fw_i8 (htl (Cond.instantiable "FewTypes" 13) (List.mem_of_getElem? (i := 74) (by decide +kernel))); exact ⟨cC, iS, fun q hq => by cases hq; exact h⟩
    | 9 => obtain ⟨cC, iS, h⟩ := u_known hts fw_i9 (htl (Cond.instantiable "FewTypesModel" 37) (List.mem_of_getElem? (i := 848) (by decide +kernel))); exact ⟨cC, iS, fun q hq => by cases hq; exact h⟩
    | k + 10 => exact ⟨0, fun _ => 0, fun q hq => by cases hq⟩
  obtain ⟨D, hD0⟩ : ∃ D : va_G, ∀ (c : Nat) (q : vw_C), fw_cl[c]? = some q → u_Kn s q.1 q.2.1 q.2.2 (D.1 c) (D.2 c) := ⟨(fun c => Classical.choose (hcl c), fun c => Classical.choose (Classical.choose_spec (hcl c))), fun c => Classical.choose_spec (Classical.choose_spec (hcl c))⟩
  obtain ⟨cI, kI, mI, fI1, fI2, fI3⟩ := Cond.arrayClass_spec (hts _ fw_ari)
  obtain ⟨cZ, kZ, mZ, fZ1, fZ2, fZ3⟩ := Cond.arrayClass_spec (hts _ fw_arz)
  obtain ⟨cJ, kJ, mJ, fJ1, fJ2, fJ3⟩ := Cond.arrayClass_spec (hts _ fw_arj)
  have haoL : (Cond.arrayOver (.object "FewTypes$Line")).before #[Value.ref b] s = true := htl _ (List.mem_of_getElem? (i := 138) (by decide +kernel))
  have haoS : (Cond.arrayOver (.object "FewTypes$Sheet")).before #[Value.ref b] s = true := htl _ (List.mem_of_getElem? (i := 290) (by decide +kernel))
  obtain ⟨mL, cL, kL, fL1, -, fL2, fL3, fL4⟩ := Cond.arrayOver_spec haoL
  obtain ⟨mS, cS, kS, fS1, -, fS2, fS3, fS4⟩ := Cond.arrayOver_spec haoS
  obtain ⟨dA, hdA⟩ : ∃ dA : Nat → ClassId, dA = (fun k => match k with | 0 => cI | 1 => cZ | 2 => cJ | 3 => cL | _ => cS) := ⟨_, rfl⟩
  have hK : va_K D fw_cl (fw_ty dA) s := by
    refine ⟨hD0, fun k q hk => ?_⟩
    subst hdA
    match k with
    | 0 => cases hk; exact ⟨fun N z => ⟨(fun k h => by cases h), kI, fI2, mI, fI3⟩, fI1⟩
    | 1 => cases hk; exact ⟨fun N z => ⟨(fun k h => by cases h), kZ, fZ2, mZ, fZ3⟩, fZ1⟩
    | 2 => cases hk; exact ⟨fun N z => ⟨(fun k h => by cases h), kJ, fJ2, mJ, fJ3⟩, fJ1⟩
    | 3 => cases hk; exact ⟨fun N z => ⟨(fun k h => by cases h), kL, fL2, mL, fL3⟩, kL, mL, fL2, fL3, fL1, fL4⟩
    | 4 => cases hk; exact ⟨fun N z => ⟨(fun k h => by cases h), kS, fS2, mS, fS3⟩, kS, mS, fS2, fS3, fS1, fS4⟩
    | k + 5 => cases hk
  have hA0 : ∀ a : Nat, a < s.heap.size → ¬ s.heap.size ≤ a := fun a h => Nat.not_le_of_lt h
  obtain ⟨t0, et0, hT0⟩ := va_Tof (args := #[Value.ref b]) (s := s) (tm := (Term.static "FewTypes" "RULE_LEAST" "[I")) (ty := .int) (N := 3) (f := fun j => .int (fw_s0 j)) (A := fun q => s.heap.size ≤ q) (by decide) (hs (Cond.arrayOf (Term.static "FewTypes" "RULE_LEAST" "[I") .int) (by decide +kernel)) (va_eqt (hs (Cond.eq (.length (Term.static "FewTypes" "RULE_LEAST" "[I")) (.int 3)) (by decide +kernel))) (fun j hj => by
    match j, hj with
    | 0, _ => exact va_eqt (hs (Cond.eq (.elem (Term.static "FewTypes" "RULE_LEAST" "[I") (.int 0)) (.int 0)) (by decide +kernel))
    | 1, _ => exact va_eqt (hs (Cond.eq (.elem (Term.static "FewTypes" "RULE_LEAST" "[I") (.int 1)) (.int 0)) (by decide +kernel))
    | 2, _ => exact va_eqt (hs (Cond.eq (.elem (Term.static "FewTypes" "RULE_LEAST" "[I") (.int 2)) (.int 1)) (by decide +kernel))
    | k + 3, h => omega) hA0
  have hZ0 := va_Zof (A := fun q => s.heap.size ≤ q) (htl (Cond.laysStatic "FewTypes" "RULE_LEAST" "[I") (List.mem_of_getElem? (i := 399) (by decide +kernel))) (htl (Cond.initialized "FewTypes") (List.mem_of_getElem? (i := 59) (by decide +kernel))) et0 hA0
  obtain ⟨t1, et1, hT1⟩ := va_Tof (args := #[Value.ref b]) (s := s) (tm := (Term.static "FewTypes" "RULE_MOST" "[I")) (ty := .int) (N := 3) (f := fun j => .int (fw_s1 j)) (A := fun q => s.heap.size ≤ q) (by decide) (hs (Cond.arrayOf (Term.static "FewTypes" "RULE_MOST" "[I") .int) (by decide +kernel)) (va_eqt (hs (Cond.eq (.length (Term.static "FewTypes" "RULE_MOST" "[I")) (.int 3)) (by decide +kernel))) (fun j hj => by
    match j, hj with
    | 0, _ => exact va_eqt (hs (Cond.eq (.elem (Term.static "FewTypes" "RULE_MOST" "[I") (.int 0)) (.int 1)) (by decide +kernel))
    | 1, _ => exact va_eqt (hs (Cond.eq (.elem (Term.static "FewTypes" "RULE_MOST" "[I") (.int 1)) (.int 3)) (by decide +kernel))
    | 2, _ => exact va_eqt (hs (Cond.eq (.elem (Term.static "FewTypes" "RULE_MOST" "[I") (.int 2)) (.int 9)) (by decide +kernel))
    | k + 3, h => omega) hA0
  have hZ1 := va_Zof (A := fun q => s.heap.size ≤ q) (htl (Cond.laysStatic "FewTypes" "RULE_MOST" "[I") (List.mem_of_getElem? (i := 401) (by decide +kernel))) (htl (Cond.initialized "FewTypes") (List.mem_of_getElem? (i := 59) (by decide +kernel))) et1 hA0
  obtain ⟨t2, et2, hT2⟩ := va_Tof (args := #[Value.ref b]) (s := s) (tm := (Term.static "FewTypes$Press" "LACKING" "[J")) (ty := .long) (N := 6) (f := fun j => .long (fw_s2 j)) (A := fun q => s.heap.size ≤ q) (by decide) (hs (Cond.arrayOf (Term.static "FewTypes$Press" "LACKING" "[J") .long) (by decide +kernel)) (va_eqt (hs (Cond.eq (.length (Term.static "FewTypes$Press" "LACKING" "[J")) (.int 6)) (by decide +kernel))) (fun j hj => by
    match j, hj with
    | 0, _ => exact va_eqtl (hs (Cond.eq (.elem (Term.static "FewTypes$Press" "LACKING" "[J") (.int 0)) (.long 6148914691236517205)) (by decide +kernel))
    | 1, _ => exact va_eqtl (hs (Cond.eq (.elem (Term.static "FewTypes$Press" "LACKING" "[J") (.int 1)) (.long 3689348814741910323)) (by decide +kernel))
    | 2, _ => exact va_eqtl (hs (Cond.eq (.elem (Term.static "FewTypes$Press" "LACKING" "[J") (.int 2)) (.long 1085102592571150095)) (by decide +kernel))
    | 3, _ => exact va_eqtl (hs (Cond.eq (.elem (Term.static "FewTypes$Press" "LACKING" "[J") (.int 3)) (.long 71777214294589695)) (by decide +kernel))
    | 4, _ => exact va_eqtl (hs (Cond.eq (.elem (Term.static "FewTypes$Press" "LACKING" "[J") (.int 4)) (.long 281470681808895)) (by decide +kernel))
    | 5, _ => exact va_eqtl (hs (Cond.eq (.elem (Term.static "FewTypes$Press" "LACKING" "[J") (.int 5)) (.long 4294967295)) (by decide +kernel))
    | k + 6, h => omega) hA0
  have hZ2 := va_Zof (A := fun q => s.heap.size ≤ q) (htl (Cond.laysStatic "FewTypes$Press" "LACKING" "[J") (List.mem_of_getElem? (i := 555) (by decide +kernel))) (htl (Cond.initialized "FewTypes$Press") (List.mem_of_getElem? (i := 67) (by decide +kernel))) et2 hA0
  obtain ⟨t3, et3, hT3⟩ := va_Tof (args := #[Value.ref b]) (s := s) (tm := (Term.static "FewTypes" "RULE_FIRST" "[I")) (ty := .int) (N := 3) (f := fun j => .int (fw_s3 j)) (A := fun q => s.heap.size ≤ q) (by decide) (hs (Cond.arrayOf (Term.static "FewTypes" "RULE_FIRST" "[I") .int) (by decide +kernel)) (va_eqt (hs (Cond.eq (.length (Term.static "FewTypes" "RULE_FIRST" "[I")) (.int 3)) (by decide +kernel))) (fun j hj => by
    match j, hj with
    | 0, _ => exact va_eqt (hs (Cond.eq (.elem (Term.static "FewTypes" "RULE_FIRST" "[I") (.int 0)) (.int 0)) (by decide +kernel))
    | 1, _ => exact va_eqt (hs (Cond.eq (.elem (Term.static "FewTypes" "RULE_FIRST" "[I") (.int 1)) (.int 0)) (by decide +kernel))
    | 2, _ => exact va_eqt (hs (Cond.eq (.elem (Term.static "FewTypes" "RULE_FIRST" "[I") (.int 2)) (.int 4)) (by decide +kernel))
    | k + 3, h => omega) hA0
  have hZ3 := va_Zof (A := fun q => s.heap.size ≤ q) (htl (Cond.laysStatic "FewTypes" "RULE_FIRST" "[I") (List.mem_of_getElem? (i := 163) (by decide +kernel))) (htl (Cond.initialized "FewTypes") (List.mem_of_getElem? (i := 59) (by decide +kernel))) et3 hA0
  obtain ⟨ad, had⟩ : ∃ ad : Nat → Nat, ad = (fun k => if k = 1000 then t0 else if k = 1001 then t1 else if k = 1002 then t2 else t3) := ⟨_, rfl⟩
  have a0 : ad 1000 = t0 := by rw [had]; rfl
  have a1 : ad 1001 = t1 := by rw [had]; rfl
  have a2 : ad 1002 = t2 := by rw [had]; rfl
  have a3 : ad 1003 = t3 := by rw [had]; rfl
  rw [← a0] at hZ0 hT0
  rw [← a1] at hZ1 hT1
  rw [← a2] at hZ2 hT2
  rw [← a3] at hZ3 hT3
  have hSt : fw_St ad (fun q => s.heap.size ≤ q) s s.heap := ⟨hZ0, hT0, hZ1, hT1, hZ2, hT2⟩
  have hNe : fw_Ne s := by
    intro q hq
    simp only [fw_nl, List.mem_cons, List.not_mem_nil, or_false] at hq
    rcases hq with rfl | rfl | rfl | rfl | rfl | rfl | rfl
    · exact va_Nw.of (A := #[Value.ref b]) rfl (htl _ (List.mem_of_getElem? (i := 360) (by decide +kernel)))
    · exact va_Nw.of (A := #[Value.ref b]) rfl (htl _ (List.mem_of_getElem? (i := 437) (by decide +kernel)))
    · exact va_Nw.of (A := #[Value.ref b]) rfl (htl _ (List.mem_of_getElem? (i := 485) (by decide +kernel)))
    · exact va_Nw.of (A := #[Value.ref b]) rfl (htl _ (List.mem_of_getElem? (i := 541) (by decide +kernel)))
    · exact va_Nw.of (A := #[Value.ref b]) rfl (htl _ (List.mem_of_getElem? (i := 627) (by decide +kernel)))
    · exact va_Nw.of (A := #[Value.ref b]) rfl (htl _ (List.mem_of_getElem? (i := 675) (by decide +kernel)))
    · exact va_Nw.of (A := #[Value.ref b]) rfl (htl _ (List.mem_of_getElem? (i := 761) (by decide +kernel)))
  have hNc : fw_Nc s := by
    intro q hq
    simp only [fw_ncl, List.mem_cons, List.not_mem_nil, or_false] at hq
    rcases hq with rfl | rfl | rfl | rfl | rfl | rfl | rfl | rfl | rfl
    · exact va_Nw.of (A := #[Value.ref b]) rfl (htl _ (List.mem_of_getElem? (i := 89) (by decide +kernel)))
    · exact va_Nw.of (A := #[Value.ref b]) rfl (htl _ (List.mem_of_getElem? (i := 116) (by decide +kernel)))
    · exact va_Nw.of (A := #[Value.ref b]) rfl (htl _ (List.mem_of_getElem? (i := 141) (by decide +kernel)))
    · exact va_Nw.of (A := #[Value.ref b]) rfl (htl _ (List.mem_of_getElem? (i := 205) (by decide +kernel)))
    · exact va_Nw.of (A := #[Value.ref b]) rfl (htl _ (List.mem_of_getElem? (i := 222) (by decide +kernel)))
    · exact va_Nw.of (A := #[Value.ref b]) rfl (htl _ (List.mem_of_getElem? (i := 263) (by decide +kernel)))
    · exact va_Nw.of (A := #[Value.ref b]) rfl (htl _ (List.mem_of_getElem? (i := 286) (by decide +kernel)))
    · exact va_Nw.of (A := #[Value.ref b]) rfl (htl _ (List.mem_of_getElem? (i := 288) (by decide +kernel)))
    · exact va_Nw.of (A := #[Value.ref b]) rfl (htl _ (List.mem_of_getElem? (i := 292) (by decide +kernel)))
  have hC : fw_CX ad (fun q => s.heap.size ≤ q) s := ⟨hSt, hNe, hNc, haoL, haoS, hZ3, hT3, va_Nw.of (A := #[Value.ref b]) rfl (htl _ (List.mem_of_getElem? (i := 162) (by decide +kernel)))⟩
  clear hcl hdA had hZ0 hZ1 hZ2 hZ3 hT0 hT1 hT2 hT3
  obtain ⟨A, eA⟩ : ∃ A : Nat → Prop, A = (fun q => s.heap.size ≤ q) := ⟨_, rfl⟩
  rw [← eA] at hC
  have hA : ∀ q, s.heap.size ≤ q → A q := fun q h => by rw [eA]; exact h
  have hS : va_S A s.heap s.heap [] := va_S.rf
  have hP : va_P D fw_cl [] s.heap := fun k q hk => by cases hk
  have hD : va_D A [] := ⟨fun i j p q h _ _ => (by cases h), fun k q h => by cases h⟩
  obtain ⟨H, eH⟩ : ∃ H : Heap, H = s.heap := ⟨_, rfl⟩
  have hl := lv_entry ([.ref b]) (n := 4) (Nat.le_of_ble_eq_true rfl)
  rw [lg_entry_eq]
  generalize (lg_sl ([.ref b]) ++ List.replicate (4 - (lg_sl ([.ref b])).length) Slot.unset).toArray = ls at hl ⊢
  have hl : lv_has ls 4 [(0, .ref b)] := hl
  refine va_new (D := D) (ci := 8) (fs := [.null, .null, .int 0, .null, .null, .null, .null, .null, .null, .null, .null, .null, .null]) (C := "FewTypes") (T := fw_T8) (N := 13) hx hb hts fw_i8 fw_t8 fw_k8 hown (hts _ cl_L_7) (hts _ in_X) (hts _ ii_X) hK hP hD hS hA rfl (by decide +kernel) (fw_rc (by omega)) (fw_rs (by omega)) d_law_0 (fun q0 H hP hD hS => ?_)
  refine W.cs (cells' := 1) (slots' := 13) rfl rfl ?_
  have hP : va_P D fw_cl [(q0, .inr (8, [.null, .null, .int 0, .null, .null, .null, .null, .null, .null, .null, .null, .null, .null]))] H := hP
  have hD : va_D A [(q0, .inr (8, [.null, .null, .int 0, .null, .null, .null, .null, .null, .null, .null, .null, .null, .null]))] := hD
  refine lv_dup hx hb d_law_3 rfl ?_
  have hPc := hP
  have hDc := hD.self (sz := H.size)
  have hFc := va_free (wc := [(q0, .inr (8, [.null, .null, .int 0, .null, .null, .null, .null, .null, .null, .null, .null, .null, .null]))]) hD hS hA [0] rfl
  refine va_callv (S := Unit) (A1 := va_A [(q0, .inr (8, [.null, .null, .int 0, .null, .null, .null, .null, .null, .null, .null, .null, .null, .null]))] H.size) (va_runI (As := []) (rest := [.ref q0]) ⟨hx, hb, hml, hown, hts⟩ (k_X l D dA ad (va_A [(q0, .inr (8, [.null, .null, .int 0, .null, .null, .null, .null, .null, .null, .null, .null, .null, .null]))] H.size) q0) (cwI 0 hts (fw_gC cd_X) rfl rfl rfl (hts _ ii_X) (hts _ mk_L_9) (hts _ im_X) rfl ⟨by decide, by decide, by decide +kernel⟩ ⟨fw_rfr (by decide), fw_rlo (by decide)⟩) ⟨fw_KP.blind, fw_KP.enter (fun q h => Or.inr h) hFc hPc hK hDc hS hC⟩ rfl rfl hl.1 rfl (lv_room (Nat.le_of_ble_eq_true rfl)) d_law_4 ⟨fw_rc (by first | omega | decide), fw_rs (by first | omega | decide)⟩) hS (fun q _ h => hFc q h) hFc (fun u t H1 locs ht hvm hw hB hz1 hk1 hS => ?_)
  obtain ⟨ax, z0, hPx, -, hDx⟩ := hB
  rw [ht] at hPx
  have hDx : va_D A (fw_w fw_X ax dA fw_x0) := hDx.weaken (fun _ q _ h => hFc q.1 h)
  clear hP hD hPc hDc hFc hk1 hz1
  generalize H1 = H at hPx hS ⊢
  refine W.cs (cells' := 94) (slots' := 2188) rfl rfl ?_
  refine lv_astore_n (lv' := [(1, .ref q0), (0, .ref b)]) hx hb d_law_7 rfl hl (by decide) rfl (fun ls hl => ?_)
  have hP := hPx
  have hD := hDx
  refine va_new (D := D) (ci := 9) (fs := [.int 0, .null, .null, .null, .null, .null, .int 0, .null, .int 0, .int 0, .null, .int 0, .null, .null, .null, .int 0, .int 0, .int 0, .null, .null, .null, .int 0, .null, .null, .null, .null, .null, .null, .null, .null, .null, .null, .int 0, .null, .null, .null, .null]) (C := "FewTypesModel") (T := fw_T9) (N := 37) hx hb hts fw_i9 fw_t9 fw_k9 hown (hts _ cl_L_10) (hts _ in_M) (hts _ ii_M) hK hP hD hS hA rfl (by decide +kernel) (fw_rc (by omega)) (fw_rs (by omega)) d_law_8 (fun q1 H hP hD hS => ?_)
  refine W.cs (cells' := 95) (slots' := 2225) rfl rfl ?_
  have hPx := fw_lft hP
  have hPc : va_P D fw_cl [(q1, .inr (9, [.int 0, .null, .null, .null, .null, .null, .int 0, .null, .int 0, .int 0, .null, .int 0, .null, .null, .null, .int 0, .int 0, .int 0, .null, .null, .null, .int 0, .null, .null, .null, .null, .null, .null, .null, .null, .null, .null, .int 0, .null, .null, .null, .null]))] H := fw_rgt hP
  have hDx := fw_lftD hD
  have hDn : va_D A [(q1, .inr (9, [.int 0, .null, .null, .null, .null, .null, .int 0, .null, .int 0, .int 0, .null, .int 0, .null, .null, .null, .int 0, .int 0, .int 0, .null, .null, .null, .int 0, .null, .null, .null, .null, .null, .null, .null, .null, .null, .null, .int 0, .null, .null, .null, .null]))] := fw_rgtD hD
  have hap : ∀ k, k < 94 → ax k ≠ q1 := fun k hk => by
    have e : fw_X[k]? = some fw_X[k] := List.getElem?_eq_getElem (by rw [fw_lenX]; exact hk)
    exact fw_aprt hD (fw_wget e) (j := 0) (q := (q1, .inr (9, [.int 0, .null, .null, .null, .null, .null, .int 0, .null, .int 0, .int 0, .null, .int 0, .null, .null, .null, .int 0, .int 0, .int 0, .null, .null, .null, .int 0, .null, .null, .null, .null, .null, .null, .null, .null, .null, .null, .int 0, .null, .null, .null, .null]))) rfl
  clear hP hD
  refine lv_dup hx hb d_law_11 rfl ?_
  have hDc := hDn.self (sz := H.size)
  have hFc := va_free (wc := [(q1, .inr (9, [.int 0, .null, .null, .null, .null, .null, .int 0, .null, .int 0, .int 0, .null, .int 0, .null, .null, .null, .int 0, .int 0, .int 0, .null, .null, .null, .int 0, .null, .null, .null, .null, .null, .null, .null, .null, .null, .null, .int 0, .null, .null, .null, .null]))]) hDn hS hA [0] rfl
  refine va_callv (S := Unit) (A1 := va_A [(q1, .inr (9, [.int 0, .null, .null, .null, .null, .null, .int 0, .null, .int 0, .int 0, .null, .int 0, .null, .null, .null, .int 0, .int 0, .int 0, .null, .null, .null, .int 0, .null, .null, .null, .null, .null, .null, .null, .null, .null, .null, .int 0, .null, .null, .null, .null]))] H.size) (va_runI (As := []) (rest := [.ref q1]) ⟨hx, hb, hml, hown, hts⟩ (k_M l D dA ad (va_A [(q1, .inr (9, [.int 0, .null, .null, .null, .null, .null, .int 0, .null, .int 0, .int 0, .null, .int 0, .null, .null, .null, .int 0, .int 0, .int 0, .null, .null, .null, .int 0, .null, .null, .null, .null, .null, .null, .null, .null, .null, .null, .int 0, .null, .null, .null, .null]))] H.size) q1) (cwI 0 hts (fw_gC cd_M) rfl rfl rfl (hts _ ii_M) (hts _ mk_L_12) (hts _ im_M) rfl ⟨by decide, by decide, by decide +kernel⟩ ⟨fw_rfr (by decide), fw_rlo (by decide)⟩) ⟨fw_KP.blind, fw_KP.enter (fun q h => Or.inr h) hFc hPc hK hDc hS hC⟩ rfl rfl hl.1 rfl (lv_room (Nat.le_of_ble_eq_true rfl)) d_law_12 ⟨fw_rc (by first | omega | decide), fw_rs (by first | omega | decide)⟩) hS (fun q _ h => hFc q h) hFc (fun u t H1 locs ht hvm hw hB hz1 hk1 hS => ?_)
  obtain ⟨am, z1, hPm, -, hDm0⟩ := hB
  rw [ht] at hPm
  have hDm : va_D A (fw_w fw_Mo am dA fw_y0) := hDm0.weaken (fun _ q _ h => hFc q.1 h)
  have nA : ∀ k, k < 94 → ax k < H.size ∧ ¬ va_A [(q1, .inr (9, [.int 0, .null, .null, .null, .null, .null, .int 0, .null, .int 0, .int 0, .null, .int 0, .null, .null, .null, .int 0, .int 0, .int 0, .null, .null, .null, .int 0, .null, .null, .null, .null, .null, .null, .null, .null, .null, .null, .int 0, .null, .null, .null, .null]))] H.size (ax k) := fun k hk => ⟨fw_wLt hPx (by rw [fw_lenX]; exact hk), fun h => by
    rcases h with ⟨j, e, hj⟩ | h
    · match j with
      | 0 => cases hj; exact hap k hk rfl
      | j + 1 => cases hj
    · exact absurd (fw_wLt hPx (by rw [fw_lenX]; exact hk)) (Nat.not_lt_of_le h)⟩
  have hPx1 : va_P D fw_cl (fw_w fw_X ax dA fw_x0) H1 := fw_wKeep hPx (fun k hk => hk1 _ (nA k (by rw [fw_lenX] at hk; exact hk)).1 (nA k (by rw [fw_lenX] at hk; exact hk)).2)
  have gM : ∀ k, k < 28 → ∃ e, (fw_w fw_Mo am dA fw_y0)[k]? = some (am k, e) := fun k hk => ⟨_, fw_wget (List.getElem?_eq_getElem (by rw [fw_lenM]; exact hk))⟩
  have gX : ∀ k, k < 94 → ∃ e, (fw_w fw_X ax dA fw_x0)[k]? = some (ax k, e) := fun k hk => ⟨_, fw_wget (List.getElem?_eq_getElem (by rw [fw_lenX]; exact hk))⟩
  have nXM : ∀ i j, i < 94 → j < 28 → ax i ≠ am j := by
    intro i j hi hj h
    obtain ⟨e2, h2⟩ := gM j hj
    have := hDm0.2 j _ h2
    rw [← h] at this
    exact (nA i hi).2 this
  refine W.cs (cells' := 122) (slots' := 27448) rfl rfl ?_
  refine lv_astore_n (lv' := [(2, .ref q1), (1, .ref q0), (0, .ref b)]) hx hb d_law_15 rfl hl (by decide) rfl (fun ls hl => ?_)
  refine lv_iconst (v := 0) hx hb d_law_16 (by decide) ?_
  refine lv_istore_n (lv' := [(3, .int 0), (2, .ref q1), (1, .ref q0), (0, .ref b)]) hx hb d_law_17 rfl hl (by decide) rfl (fun ls hl => ?_)
  refine W.widen (k := 600000) (n := 7302250) (by omega) (by omega) ?_
  obtain ⟨bx, ebx⟩ : ∃ bx : Nat → Nat, bx = (fun k => if k < 1000 then ax k else ad k) := ⟨_, rfl⟩
  obtain ⟨bm, ebm⟩ : ∃ bm : Nat → Nat, bm = (fun k => if k < 1000 then am k else ad k) := ⟨_, rfl⟩
  have eqX : fw_w fw_X bx dA fw_x0 = fw_w fw_X ax dA fw_x0 := fw_w_congr (n := 94) (fun k hk => by rw [ebx]; exact if_pos (by omega)) (by decide) (by decide)
  have eqM : fw_w fw_Mo bm dA fw_y0 = fw_w fw_Mo am dA fw_y0 := fw_w_congr (n := 28) (fun k hk => by rw [ebm]; exact if_pos (by omega)) (by decide) (by decide)
  have nX : ∀ k, k < 94 → A (ax k) := fun k hk => by obtain ⟨e, he⟩ := gX k hk; exact hDx.2 k _ he
  have nM : ∀ k, k < 28 → A (am k) := fun k hk => by obtain ⟨e, he⟩ := gM k hk; exact hDm.2 k _ he
  have bxk : ∀ k, k < 94 → bx k = ax k := fun k hk => by rw [ebx]; exact if_pos (by omega)
  have bmk : ∀ k, k < 28 → bm k = am k := fun k hk => by rw [ebm]; exact if_pos (by omega)
  have sX : fw_St bx (fun q => s.heap.size ≤ q) s s.heap := by
    have q0 : bx 1000 = ad 1000 := by rw [ebx]; rfl
    have q1 : bx 1001 = ad 1001 := by rw [ebx]; rfl
    have q2 : bx 1002 = ad 1002 := by rw [ebx]; rfl
    unfold fw_St
    rw [q0, q1, q2]
    exact hSt
  have sM : fw_St bm (fun q => s.heap.size ≤ q) s s.heap := by
    have q0 : bm 1000 = ad 1000 := by rw [ebm]; rfl
    have q1 : bm 1001 = ad 1001 := by rw [ebm]; rfl
    have q2 : bm 1002 = ad 1002 := by rw [ebm]; rfl
    unfold fw_St
    rw [q0, q1, q2]
    exact hSt
  have hl2 := lv_sub (l' := [(0, .ref b), (1, .ref q0), (2, .ref q1), (3, .int 0)]) hl [3, 2, 1, 0] rfl
  rw [← z0, ← z1, ← bxk 0 (by omega), ← bmk 0 (by omega)] at hl2
  rw [← eqX] at hPx1 hDx
  rw [← eqM] at hPm hDm
  subst eA
  exact wl_loop hO hL 512 0 fw_x0 fw_y0 (by omega) (by omega) h0 ⟨⟨hx, hb, hml, hown, hts⟩, ⟨hr, hlocks⟩, ⟨hX, hbl⟩, hK, ⟨sX, sM, hNe⟩, fun k hk => by rw [bxk k hk]; exact nX k hk, fun k hk => by rw [bmk k hk]; exact nM k hk, fun i j hi hj => by rw [bxk i hi, bmk j hj]; exact nXM i j hi hj⟩ hl2 ⟨hPx1, hPm⟩ ⟨hDx, hDm⟩ hS
