section FWC
variable {own : String} {cc : ByteArray} {nL : Nat} {rty : Option FieldType} {sh : List fw_K} {d : Nat} {rt : Option Int32} {μ1 : fw_M} {pc : Nat} {lv : List (Nat × Value)} {st : List Value} {μ : fw_M}
-- returns
theorem fw_iret {v : Int32} (hd : decode cc pc = .ok (.ireturn, 1)) (hr : rty = some .int) : fw_R own cc nL rty sh d (some v) μ pc lv [.int v] μ :=
  fun ⦃p l e s m args below meth c D dA ad A H locs ls⦄ C hl hP hD hS => W.iret (v := v) (Qc := fw_Q sh D dA ad A (some v) μ) C.1 C.2.1 (C.2.2.2.2.2.1.trans hr) (fun t ht hW => ⟨⟨v, μ, rfl, ⟨rfl, rfl⟩, by rw [ht]; exact hP, va_K.moved hW.alike C.2.2.2.2.2.2.2.1, hD⟩, hS.F ht⟩) hS.2.2 hd C.2.2.2.2.2.2.1
theorem fw_zret {v v2 : Int32} (hd : decode cc pc = .ok (.ireturn, 1)) (hr : rty = some .boolean) (hv : fw_bz v = some v2) : fw_R own cc nL rty sh d (some v2) μ pc lv [.int v] μ := by
  unfold fw_bz at hv
  split at hv
  · rename_i h0
    cases hv
    have hn : narrow .boolean (.int v) = .int v := by rcases h0 with rfl | rfl <;> rfl
    exact fun ⦃p l e s m args below meth c D dA ad A H locs ls⦄ C hl hP hD hS => W.zret (v := v) (Qc := fw_Q sh D dA ad A (some v) μ) C.1 C.2.1 (C.2.2.2.2.2.1.trans hr) hn (fun t ht hW => ⟨⟨v, μ, rfl, ⟨rfl, rfl⟩, by rw [ht]; exact hP, va_K.moved hW.alike C.2.2.2.2.2.2.2.1, hD⟩, hS.F ht⟩) hS.2.2 hd C.2.2.2.2.2.2.1
  · cases hv
theorem fw_vret (hd : decode cc pc = .ok (.return_, 1)) (hr : rty = none) : fw_R own cc nL rty sh d none μ pc lv [] μ :=
  fun ⦃p l e s m args below meth c D dA ad A H locs ls⦄ C hl hP hD hS => W.vret (Qc := fw_Q sh D dA ad A none μ) C.1 C.2.1 (C.2.2.2.2.2.1.trans hr) (fun t ht hW => ⟨⟨μ, rfl, rfl, by rw [ht]; exact hP, va_K.moved hW.alike C.2.2.2.2.2.2.2.1, hD⟩, hS.F ht⟩) hS.2.2 hd C.2.2.2.2.2.2.1
-- static rows
theorem fw_gs0 {index : Nat} (hd : decode cc pc = .ok (.getstatic index, 3)) (hw : Cond.fieldLink own index "FewTypes" "RULE_LEAST" "[I" ∈ fw_tb) (k : fw_R own cc nL rty sh d rt μ1 (pc + 3) lv (.ref 1000 :: st) μ) : fw_R own cc nL rty sh d rt μ1 pc lv st μ := fun ⦃p l e s m args below meth c D dA ad A H locs ls⦄ C hl hP hD hS => va_gets C.1 C.2.1 C.2.2.2.2.2.2.2.2.2.1.1 hS C.2.2.2.1 (C.2.2.2.2.1 _ hw) (fun _ h => h) hd (k C hl hP hD hS)
theorem fw_gs1 {index : Nat} (hd : decode cc pc = .ok (.getstatic index, 3)) (hw : Cond.fieldLink own index "FewTypes" "RULE_MOST" "[I" ∈ fw_tb) (k : fw_R own cc nL rty sh d rt μ1 (pc + 3) lv (.ref 1001 :: st) μ) : fw_R own cc nL rty sh d rt μ1 pc lv st μ := fun ⦃p l e s m args below meth c D dA ad A H locs ls⦄ C hl hP hD hS => va_gets C.1 C.2.1 C.2.2.2.2.2.2.2.2.2.1.2.2.1 hS C.2.2.2.1 (C.2.2.2.2.1 _ hw) (fun _ h => h) hd (k C hl hP hD hS)
theorem fw_gs2 {index : Nat} (hd : decode cc pc = .ok (.getstatic index, 3)) (hw : Cond.fieldLink own index "FewTypes$Press" "LACKING" "[J" ∈ fw_tb) (k : fw_R own cc nL rty sh d rt μ1 (pc + 3) lv (.ref 1002 :: st) μ) : fw_R own cc nL rty sh d rt μ1 pc lv st μ := fun ⦃p l e s m args below meth c D dA ad A H locs ls⦄ C hl hP hD hS => va_gets C.1 C.2.1 C.2.2.2.2.2.2.2.2.2.1.2.2.2.2.1 hS C.2.2.2.1 (C.2.2.2.2.1 _ hw) (fun _ h => h) hd (k C hl hP hD hS)
theorem fw_t0ld {i v : Int32} (hd : decode cc pc = .ok (.iaload, 1)) (hv : fw_rd 3 fw_s0 i = some v) (kk : fw_R own cc nL rty sh d rt μ1 (pc + 1) lv (.int v :: st) μ) : fw_R own cc nL rty sh d rt μ1 pc lv (.int i :: .ref 1000 :: st) μ := by
  unfold fw_rd at hv
  split at hv
  · cases hv
  · rename_i h0; cases hv
    exact fun ⦃p l e s m args below meth c D dA ad A H locs ls⦄ C hl hP hD hS => va_ti C.1 C.2.1 C.2.2.2.2.2.2.2.2.2.1.2.1 hS h0 rfl hd (kk C hl hP hD hS)
theorem fw_t1ld {i v : Int32} (hd : decode cc pc = .ok (.iaload, 1)) (hv : fw_rd 3 fw_s1 i = some v) (kk : fw_R own cc nL rty sh d rt μ1 (pc + 1) lv (.int v :: st) μ) : fw_R own cc nL rty sh d rt μ1 pc lv (.int i :: .ref 1001 :: st) μ := by
  unfold fw_rd at hv
  split at hv
  · cases hv
  · rename_i h0; cases hv
    exact fun ⦃p l e s m args below meth c D dA ad A H locs ls⦄ C hl hP hD hS => va_ti C.1 C.2.1 C.2.2.2.2.2.2.2.2.2.1.2.2.2.1 hS h0 rfl hd (kk C hl hP hD hS)
theorem fw_t2ld {i : Int32} {v : Int64} (hd : decode cc pc = .ok (.laload, 1)) (hv : fw_rl 6 fw_s2 i = some v) (kk : fw_R own cc nL rty sh d rt μ1 (pc + 1) lv (.long v :: st) μ) : fw_R own cc nL rty sh d rt μ1 pc lv (.int i :: .ref 1002 :: st) μ := by
  unfold fw_rl at hv
  split at hv
  · cases hv
  · rename_i h0; cases hv
    exact fun ⦃p l e s m args below meth c D dA ad A H locs ls⦄ C hl hP hD hS => va_tl C.1 C.2.1 C.2.2.2.2.2.2.2.2.2.1.2.2.2.2.2 hS h0 rfl hd (kk C hl hP hD hS)
theorem fw_t2len (hd : decode cc pc = .ok (.arraylength, 1)) (kk : fw_R own cc nL rty sh d rt μ1 (pc + 1) lv (.int 6 :: st) μ) : fw_R own cc nL rty sh d rt μ1 pc lv (.ref 1002 :: st) μ := fun ⦃p l e s m args below meth c D dA ad A H locs ls⦄ C hl hP hD hS => va_tlen C.1 C.2.1 C.2.2.2.2.2.2.2.2.2.1.2.2.2.2.2 hS rfl hd (kk C hl hP hD hS)
-- System.arraycopy
theorem fw_ac1 : Cond.native arraycopyName ∈ fw_tb := fw_m 166 (by decide +kernel) (by decide +kernel)
theorem fw_ac2 : Cond.static arraycopyName ∈ fw_tb := fw_m 165 (by decide +kernel) (by decide +kernel)
theorem fw_ac3 : Cond.initialized "java/lang/System" ∈ fw_tb := fw_m 65 (by decide +kernel) (by decide +kernel)
theorem fw_cat (ad : Nat → Nat) (st : List Value) : ((st.map (fw_v ad)).map fun v => v.category) = st.map fun v => v.category := by
  rw [List.map_map]; exact List.map_congr_left (fun v _ => fw_vcat ad v)
theorem fw_acpI {index k0 k1 n0 n1 : Nat} {r0 r1 : List Nat} {sp dp n : Int32} {μ2 : fw_M} (hd : decode cc pc = .ok (.invokestatic index, 3)) (hw : Cond.methodLink own index arraycopyName ∈ fw_tb) (hs0 : sh[k0]? = some (.inr (0, n0, r0))) (hs1 : sh[k1]? = some (.inr (0, n1, r1))) (hv : fw_cp n0 n1 μ k0 sp k1 dp n = some μ2) (hd1 : 1 ≤ d) (hroom : (st.map fun v => v.category).sum ≤ 8) (kk : fw_R own cc nL rty sh d rt μ1 (pc + 3) lv st μ2) : fw_R own cc nL rty sh d rt μ1 pc lv (.int n :: .int dp :: .ref k1 :: .int sp :: .ref k0 :: st) μ := by
  unfold fw_cp at hv
  split at hv
  · cases hv
  · rename_i h0; cases hv
    have g1 : ¬ sp < 0 := fun h => h0 (Or.inl h)
    have g2 : ¬ dp < 0 := fun h => h0 (Or.inr (Or.inl h))
    have g3 : ¬ n < 0 := fun h => h0 (Or.inr (Or.inr (Or.inl h)))
    have g4 : sp.toNatClampNeg + n.toNatClampNeg ≤ n0 := Nat.le_of_not_lt (fun h => h0 (Or.inr (Or.inr (Or.inr (Or.inl h)))))
    have g5 : dp.toNatClampNeg + n.toNatClampNeg ≤ n1 := Nat.le_of_not_lt (fun h => h0 (Or.inr (Or.inr (Or.inr (Or.inr h)))))
    intro p l e s m args below meth c D dA ad A H locs ls C hl hP hD hS
    have e0 : (fw_w sh ad dA μ).set k1 (ad k1, .inl (dA 0, n1, .inl (va_cpy (μ.1 k0) (μ.1 k1) sp.toNatClampNeg dp.toNatClampNeg n.toNatClampNeg))) = fw_w sh ad dA (fw_wc μ k1 (va_cpy (μ.1 k0) (μ.1 k1) sp.toNatClampNeg dp.toNatClampNeg n.toNatClampNeg)) := by
      have e1 : (Sum.inl (dA 0, n1, .inl (va_cpy (μ.1 k0) (μ.1 k1) sp.toNatClampNeg dp.toNatClampNeg n.toNatClampNeg)) : va_E) = fw_ce ad dA (fw_wc μ k1 (va_cpy (μ.1 k0) (μ.1 k1) sp.toNatClampNeg dp.toNatClampNeg n.toNatClampNeg)) k1 (.inr (0, n1, r1)) := by
        simp [fw_ce, fw_ar, fw_wc]
      rw [e1]
      exact fw_wset hs1 (fun a t ha => fw_ce_wc a t ha)
    refine va_copyi (c0 := dA 0) (c1 := dA 0) (ty := .int) C.1 C.2.1 (C.2.2.1.trans hl.1.symm) C.2.2.2.1 (C.2.2.2.2.1 _ hw) (C.2.2.2.2.1 _ fw_ac1) (C.2.2.2.2.1 _ fw_ac2) (C.2.2.2.2.1 _ fw_ac3) C.2.2.2.2.2.2.2.1 hP hD hS k0 k1 0 0 (fw_wget hs0) (fw_wget hs1) rfl rfl rfl g1 g2 g3 g4 g5 (fun _ _ => rfl) hd1 ?_ hd (fun H1 locs1 hP1 hD1 hS1 => kk C hl (by rw [← e0]; exact hP1) (by rw [← e0]; exact hD1) hS1)
    rw [fw_cat]
    have e2 : nativeFrameWords "java/lang/System" "arraycopy" 5 + 11 ≤ 32 := by decide
    show _ ≤ 40 * d
    omega
theorem fw_acpL {index k0 k1 n0 n1 : Nat} {r0 r1 : List Nat} {sp dp n : Int32} {μ2 : fw_M} (hd : decode cc pc = .ok (.invokestatic index, 3)) (hw : Cond.methodLink own index arraycopyName ∈ fw_tb) (hs0 : sh[k0]? = some (.inr (2, n0, r0))) (hs1 : sh[k1]? = some (.inr (2, n1, r1))) (hv : fw_cl2 n0 n1 μ k0 sp k1 dp n = some μ2) (hd1 : 1 ≤ d) (hroom : (st.map fun v => v.category).sum ≤ 8) (kk : fw_R own cc nL rty sh d rt μ1 (pc + 3) lv st μ2) : fw_R own cc nL rty sh d rt μ1 pc lv (.int n :: .int dp :: .ref k1 :: .int sp :: .ref k0 :: st) μ := by
  unfold fw_cl2 at hv
  split at hv
  · cases hv
  · rename_i h0; cases hv
    have g1 : ¬ sp < 0 := fun h => h0 (Or.inl h)
    have g2 : ¬ dp < 0 := fun h => h0 (Or.inr (Or.inl h))
    have g3 : ¬ n < 0 := fun h => h0 (Or.inr (Or.inr (Or.inl h)))
    have g4 : sp.toNatClampNeg + n.toNatClampNeg ≤ n0 := Nat.le_of_not_lt (fun h => h0 (Or.inr (Or.inr (Or.inr (Or.inl h)))))
    have g5 : dp.toNatClampNeg + n.toNatClampNeg ≤ n1 := Nat.le_of_not_lt (fun h => h0 (Or.inr (Or.inr (Or.inr (Or.inr h)))))
    intro p l e s m args below meth c D dA ad A H locs ls C hl hP hD hS
    have e0 : (fw_w sh ad dA μ).set k1 (ad k1, .inl (dA 2, n1, .inr (.inl (va_cpy (μ.2 k0) (μ.2 k1) sp.toNatClampNeg dp.toNatClampNeg n.toNatClampNeg)))) = fw_w sh ad dA (fw_wd μ k1 (va_cpy (μ.2 k0) (μ.2 k1) sp.toNatClampNeg dp.toNatClampNeg n.toNatClampNeg)) := by
      have e1 : (Sum.inl (dA 2, n1, .inr (.inl (va_cpy (μ.2 k0) (μ.2 k1) sp.toNatClampNeg dp.toNatClampNeg n.toNatClampNeg))) : va_E) = fw_ce ad dA (fw_wd μ k1 (va_cpy (μ.2 k0) (μ.2 k1) sp.toNatClampNeg dp.toNatClampNeg n.toNatClampNeg)) k1 (.inr (2, n1, r1)) := by
        simp [fw_ce, fw_ar, fw_wd]
      rw [e1]
      exact fw_wset hs1 (fun a t ha => fw_ce_wd a t ha)
    refine va_copyl (c0 := dA 2) (c1 := dA 2) (ty := .long) C.1 C.2.1 (C.2.2.1.trans hl.1.symm) C.2.2.2.1 (C.2.2.2.2.1 _ hw) (C.2.2.2.2.1 _ fw_ac1) (C.2.2.2.2.1 _ fw_ac2) (C.2.2.2.2.1 _ fw_ac3) C.2.2.2.2.2.2.2.1 hP hD hS k0 k1 2 2 (fw_wget hs0) (fw_wget hs1) rfl rfl rfl g1 g2 g3 g4 g5 (fun _ _ => rfl) hd1 ?_ hd (fun H1 locs1 hP1 hD1 hS1 => kk C hl (by rw [← e0]; exact hP1) (by rw [← e0]; exact hD1) hS1)
    rw [fw_cat]
    have e2 : nativeFrameWords "java/lang/System" "arraycopy" 5 + 11 ≤ 32 := by decide
    show _ ≤ 40 * d
    omega
-- calls
def fw_mh (y : MethodName) (n : Nat) : Prop := y.cls ≠ "java/lang/invoke/MethodHandle" ∧ y.cls ≠ "java/lang/invoke/VarHandle" ∧ (parseMethodDescriptor y.desc).map (fun d => d.parameters.length) = some n
def fw_MS (own : String) (index : Nat) (Z : fw_Y) (n : Nat) : Prop := Cond.methodLink own index Z.1 ∈ fw_tb ∧ Cond.static Z.1 ∈ fw_tb ∧ Cond.initialized Z.1.cls ∈ fw_tb ∧ Cond.code Z.1 Z.2.1 Z.2.2.1 Z.2.2.2 ∈ fw_tb ∧ fw_mh Z.1 n ∧ Z.2.2.1 ≤ 20
def fw_MN (own : String) (index : Nat) (Z : fw_Y) (n : Nat) : Prop := (own, index, Z.1) ∈ fw_nl ∧ Cond.static Z.1 ∈ fw_tb ∧ Cond.initialized Z.1.cls ∈ fw_tb ∧ Cond.code Z.1 Z.2.1 Z.2.2.1 Z.2.2.2 ∈ fw_tb ∧ fw_mh Z.1 n ∧ Z.2.2.1 ≤ 20
def fw_MV (own : String) (index : Nat) (Z : fw_Y) (ci n : Nat) : Prop := Cond.methodLink own index Z.1 ∈ fw_tb ∧ Cond.instanceMethod Z.1 ∈ fw_tb ∧ Cond.selects Z.1.cls Z.1 Z.1 ∈ fw_tb ∧ Cond.initialized Z.1.cls ∈ fw_tb ∧ Cond.code Z.1 Z.2.1 Z.2.2.1 Z.2.2.2 ∈ fw_tb ∧ fw_mh Z.1 n ∧ Z.2.2.1 ≤ 20 ∧ ∃ T N, fw_cl[ci]? = some (Z.1.cls, T, N)
theorem fw_blind {sh : List fw_K} {D : va_G} {dA : Nat → ClassId} {ad : Nat → Nat} {A : Nat → Prop} {μ : fw_M} {av : List Value} : FrameBlind (va_Pc av (fw_Pre sh D dA ad A μ)) := by
  intro a U g mk q
  obtain ⟨q0, q1, qP, qK, qD, qS, qN⟩ := q
  exact ⟨q0, q1, qP, va_K.moved (u := U) (U := U.calling g mk a) (Vm.Alike.refl U.vm) qK, qD, fw_St.moved (u := U) (U := U.calling g mk a) (Vm.Alike.refl U.vm) qS, fw_Ne.same rfl qN⟩
theorem fw_enter {sh : List fw_K} {p : Program} {s : State} {m : MethodId} {args : Array Value} {meth : Method} {c : Code} {D : va_G} {dA : Nat → ClassId} {ad : Nat → Nat} {A : Nat → Prop} {μ : fw_M} {av : List Value} {H : Heap} {locs : List Loc} (C : fw_Cx own cc nL rty p s m args meth c D dA ad A) (hP : va_P D fw_cl (fw_w sh ad dA μ) H) (hD : va_D A (fw_w sh ad dA μ)) (hS : va_S A s.heap H locs) : ∀ U : State, U.heap = H → s.WarmedH U.vm → va_Pc av (fw_Pre sh D dA ad A μ) av.toArray U := by
  intro U hU hW
  refine ⟨rfl, fun q hq => C.2.2.2.2.2.2.2.2.1 q (Nat.le_trans hS.1 (by rw [hU] at hq; exact hq)), by rw [hU]; exact hP, va_K.moved hW.alike C.2.2.2.2.2.2.2.1, hD, ?_, fw_Ne.warm hW C.2.2.2.2.2.2.2.2.2.2⟩
  rw [hU]
  exact (C.2.2.2.2.2.2.2.2.2.1.kept hS.2.1).moved hW.alike
theorem fw_rmok {d2 d n : Nat} (h : d2 < d) (hn : n ≤ 20) : (fw_rm d2).frames + 1 ≤ (fw_rm d).frames ∧ 8 + (n + 11) + (fw_rm d2).locals ≤ (fw_rm d).locals := by
  constructor
  · show d2 + 1 ≤ d; omega
  · show 8 + (n + 11) + 40 * d2 ≤ 40 * d; omega
theorem fw_gS {own : String} {index : Nat} {Z : fw_Y} {n : Nat} (h : fw_MS own index Z n) : GoodIn fw_tb (va_wsS own index Z.1 (Cond.code Z.1 Z.2.1 Z.2.2.1 Z.2.2.2 :: fw_tb)) := by
  intro w hw
  refine fw_gin w ?_
  simp only [va_wsS, List.mem_append, List.mem_cons, List.not_mem_nil, or_false] at hw
  rcases hw with (rfl | rfl | rfl) | rfl | hw
  · exact h.1
  · exact h.2.1
  · exact h.2.2.1
  · exact h.2.2.2.1
  · exact hw
theorem fw_gV {own : String} {index : Nat} {Z : fw_Y} {ci n : Nat} (h : fw_MV own index Z ci n) : GoodIn fw_tb (wsV own index Z.1.cls Z.1 (Cond.code Z.1 Z.2.1 Z.2.2.1 Z.2.2.2 :: fw_tb)) := by
  intro w hw
  refine fw_gin w ?_
  simp only [wsV, List.mem_append, List.mem_cons, List.not_mem_nil, or_false] at hw
  rcases hw with (rfl | rfl | rfl | rfl) | rfl | hw
  · exact h.1
  · exact h.2.1
  · exact h.2.2.1
  · exact h.2.2.2.1
  · exact h.2.2.2.2.1
  · exact hw
theorem fw_gC {Z : fw_Y} (h : Cond.code Z.1 Z.2.1 Z.2.2.1 Z.2.2.2 ∈ fw_tb) : GoodIn fw_tb (Cond.code Z.1 Z.2.1 Z.2.2.1 Z.2.2.2 :: fw_tb) := by
  intro w hw
  refine fw_gin w ?_
  rcases List.mem_cons.mp hw with rfl | hw
  · exact h
  · exact hw
theorem fw_rev (ad : Nat → Nat) (as st : List Value) : (as.reverse ++ st).map (fw_v ad) = (as.map (fw_v ad)).reverse ++ st.map (fw_v ad) := by rw [List.map_append, List.map_reverse]
theorem fw_revV (ad : Nat → Nat) (k : Nat) (as st : List Value) : (as.reverse ++ .ref k :: st).map (fw_v ad) = (as.map (fw_v ad)).reverse ++ .ref (ad k) :: st.map (fw_v ad) := by rw [List.map_append, List.map_reverse]; rfl
theorem fw_callSi {index d2 n : Nat} {Z : fw_Y} {as st0 : List Value} {r : Int32} {μ2 : fw_M} (hd : decode cc pc = .ok (.invokestatic index, 3)) (hM : fw_MS own index Z n) (hc : fw_Con Z sh d2 as (some r) μ μ2) (hdd : d2 < d) (hn : as.length = n) (hst : as.reverse ++ st = st0) (hroom : (st.map fun v => v.category).sum ≤ 8) (kk : fw_R own cc nL rty sh d rt μ1 (pc + 3) lv (.int r :: st) μ2) : fw_R own cc nL rty sh d rt μ1 pc lv st0 μ := by
  subst hst
  intro p l e s m args below meth c D dA ad A H locs ls C hl hP hD hS
  rw [fw_rev]
  refine va_calli (post := fun x u => x = r ∧ u = μ2) (B := fw_B sh D dA ad A) (A1 := A) (a := (as.map (fw_v ad)).toArray) (va_runS (As := as.map (fw_v ad)) (rest := st.map (fw_v ad)) (Qc := fw_Q sh D dA ad A (some r) μ2) ⟨C.1, C.2.1, C.2.2.1, C.2.2.2.1, C.2.2.2.2.1⟩ (hc l D dA ad A) (va_cwS n C.2.2.2.2.1 (fw_gS hM) rfl rfl rfl hM.2.2.2.2.1 (fw_rmok hdd hM.2.2.2.2.2)) ⟨fw_blind, fw_enter C hP hD hS⟩ rfl (by rw [List.length_map]; exact hn) hl.1 rfl (lv_room (by rw [fw_cat]; exact hroom)) hd ⟨Nat.zero_le _, Nat.zero_le _⟩) hS (fun q _ h => h) (fun q h => h) ?_
  intro r2 u t H1 locs1 ht hvm hp hB hz hk hS1
  obtain ⟨rfl, rfl⟩ := hp
  obtain ⟨hP1, -, hD1⟩ := hB
  exact kk C hl (by rw [← ht]; exact hP1) hD1 hS1
theorem fw_callSv {index d2 n : Nat} {Z : fw_Y} {as st0 : List Value} {μ2 : fw_M} (hd : decode cc pc = .ok (.invokestatic index, 3)) (hM : fw_MS own index Z n) (hc : fw_Con Z sh d2 as none μ μ2) (hdd : d2 < d) (hn : as.length = n) (hst : as.reverse ++ st = st0) (hroom : (st.map fun v => v.category).sum ≤ 8) (kk : fw_R own cc nL rty sh d rt μ1 (pc + 3) lv st μ2) : fw_R own cc nL rty sh d rt μ1 pc lv st0 μ := by
  subst hst
  intro p l e s m args below meth c D dA ad A H locs ls C hl hP hD hS
  rw [fw_rev]
  refine va_callv (post := fun u => u = μ2) (B := fw_B sh D dA ad A) (A1 := A) (a := (as.map (fw_v ad)).toArray) (va_runS (As := as.map (fw_v ad)) (rest := st.map (fw_v ad)) (Qc := fw_Q sh D dA ad A none μ2) ⟨C.1, C.2.1, C.2.2.1, C.2.2.2.1, C.2.2.2.2.1⟩ (hc l D dA ad A) (va_cwS n C.2.2.2.2.1 (fw_gS hM) rfl rfl rfl hM.2.2.2.2.1 (fw_rmok hdd hM.2.2.2.2.2)) ⟨fw_blind, fw_enter C hP hD hS⟩ rfl (by rw [List.length_map]; exact hn) hl.1 rfl (lv_room (by rw [fw_cat]; exact hroom)) hd ⟨Nat.zero_le _, Nat.zero_le _⟩) hS (fun q _ h => h) (fun q h => h) ?_
  intro u t H1 locs1 ht hvm hp hB hz hk hS1
  obtain rfl := hp
  obtain ⟨hP1, -, hD1⟩ := hB
  exact kk C hl (by rw [← ht]; exact hP1) hD1 hS1
theorem fw_callNi {index d2 n : Nat} {Z : fw_Y} {as st0 : List Value} {r : Int32} {μ2 : fw_M} (hd : decode cc pc = .ok (.invokestatic index, 3)) (hM : fw_MN own index Z n) (hc : fw_Con Z sh d2 as (some r) μ μ2) (hdd : d2 < d) (hn : as.length = n) (hst : as.reverse ++ st = st0) (hroom : (st.map fun v => v.category).sum ≤ 8) (kk : fw_R own cc nL rty sh d rt μ1 (pc + 3) lv (.int r :: st) μ2) : fw_R own cc nL rty sh d rt μ1 pc lv st0 μ := by
  subst hst
  intro p l e s m args below meth c D dA ad A H locs ls C hl hP hD hS
  rw [fw_rev]
  refine va_calli (post := fun x u => x = r ∧ u = μ2) (B := fw_B sh D dA ad A) (A1 := A) (a := (as.map (fw_v ad)).toArray) (va_runSN (As := as.map (fw_v ad)) (rest := st.map (fw_v ad)) (Qc := fw_Q sh D dA ad A (some r) μ2) ⟨C.1, C.2.1, C.2.2.1, C.2.2.2.1, C.2.2.2.2.1⟩ (hc l D dA ad A) ⟨va_cnB n C.2.2.2.2.1 (fw_gC hM.2.2.2.1) rfl rfl rfl (C.2.2.2.2.2.2.2.2.2.2 _ hM.1) (C.2.2.2.2.1 _ hM.2.2.1) hM.2.2.2.2.1 (fw_rmok hdd hM.2.2.2.2.2), C.2.2.2.2.1 _ hM.2.1, trivial⟩ ⟨fw_blind, fw_enter C hP hD hS⟩ rfl (by rw [List.length_map]; exact hn) hl.1 rfl (lv_room (by rw [fw_cat]; exact hroom)) hd ⟨Nat.zero_le _, Nat.zero_le _⟩) hS (fun q _ h => h) (fun q h => h) ?_
  intro r2 u t H1 locs1 ht hvm hp hB hz hk hS1
  obtain ⟨rfl, rfl⟩ := hp
  obtain ⟨hP1, -, hD1⟩ := hB
  exact kk C hl (by rw [← ht]; exact hP1) hD1 hS1
theorem fw_callVi {index d2 n ci k : Nat} {fs : List (Option Nat)} {Z : fw_Y} {as st0 : List Value} {r : Int32} {μ2 : fw_M} (hd : decode cc pc = .ok (.invokevirtual index, 3)) (hM : fw_MV own index Z ci n) (hs : sh[k]? = some (.inl (ci, fs))) (hc : fw_Con Z sh d2 (.ref k :: as) (some r) μ μ2) (hdd : d2 < d) (hn : as.length = n) (hst : as.reverse ++ .ref k :: st = st0) (hroom : (st.map fun v => v.category).sum ≤ 8) (kk : fw_R own cc nL rty sh d rt μ1 (pc + 3) lv (.int r :: st) μ2) : fw_R own cc nL rty sh d rt μ1 pc lv st0 μ := by
  subst hst
  intro p l e s m args below meth c D dA ad A H locs ls C hl hP hD hS
  rw [fw_revV]
  obtain ⟨T, N, hcl⟩ := hM.2.2.2.2.2.2.2
  refine va_calli (post := fun x u => x = r ∧ u = μ2) (B := fw_B sh D dA ad A) (A1 := A) (a := (Value.ref (ad k) :: as.map (fw_v ad)).toArray) (va_runV (As := as.map (fw_v ad)) (rest := st.map (fw_v ad)) (b := ad k) (Qc := fw_Q sh D dA ad A (some r) μ2) ⟨C.1, C.2.1, C.2.2.1, C.2.2.2.1, C.2.2.2.2.1⟩ (hc l D dA ad A) (cwV n C.2.2.2.2.1 (fw_gV hM) rfl rfl rfl ⟨rfl, hM.2.2.2.2.2.1⟩ (fw_rmok hdd hM.2.2.2.2.2.2.1)) ⟨fw_blind, va_recv C.2.2.2.2.2.2.2.1 hP hcl (fw_wget hs), fw_enter C hP hD hS⟩ rfl (by rw [List.length_map]; exact hn) hl.1 rfl (lv_room (by rw [fw_cat]; exact hroom)) hd ⟨Nat.zero_le _, Nat.zero_le _⟩) hS (fun q _ h => h) (fun q h => h) ?_
  intro r2 u t H1 locs1 ht hvm hp hB hz hk hS1
  obtain ⟨rfl, rfl⟩ := hp
  obtain ⟨hP1, -, hD1⟩ := hB
  exact kk C hl (by rw [← ht]; exact hP1) hD1 hS1
theorem fw_callVv {index d2 n ci k : Nat} {fs : List (Option Nat)} {Z : fw_Y} {as st0 : List Value} {μ2 : fw_M} (hd : decode cc pc = .ok (.invokevirtual index, 3)) (hM : fw_MV own index Z ci n) (hs : sh[k]? = some (.inl (ci, fs))) (hc : fw_Con Z sh d2 (.ref k :: as) none μ μ2) (hdd : d2 < d) (hn : as.length = n) (hst : as.reverse ++ .ref k :: st = st0) (hroom : (st.map fun v => v.category).sum ≤ 8) (kk : fw_R own cc nL rty sh d rt μ1 (pc + 3) lv st μ2) : fw_R own cc nL rty sh d rt μ1 pc lv st0 μ := by
  subst hst
  intro p l e s m args below meth c D dA ad A H locs ls C hl hP hD hS
  rw [fw_revV]
  obtain ⟨T, N, hcl⟩ := hM.2.2.2.2.2.2.2
  refine va_callv (post := fun u => u = μ2) (B := fw_B sh D dA ad A) (A1 := A) (a := (Value.ref (ad k) :: as.map (fw_v ad)).toArray) (va_runV (As := as.map (fw_v ad)) (rest := st.map (fw_v ad)) (b := ad k) (Qc := fw_Q sh D dA ad A none μ2) ⟨C.1, C.2.1, C.2.2.1, C.2.2.2.1, C.2.2.2.2.1⟩ (hc l D dA ad A) (cwV n C.2.2.2.2.1 (fw_gV hM) rfl rfl rfl ⟨rfl, hM.2.2.2.2.2.1⟩ (fw_rmok hdd hM.2.2.2.2.2.2.1)) ⟨fw_blind, va_recv C.2.2.2.2.2.2.2.1 hP hcl (fw_wget hs), fw_enter C hP hD hS⟩ rfl (by rw [List.length_map]; exact hn) hl.1 rfl (lv_room (by rw [fw_cat]; exact hroom)) hd ⟨Nat.zero_le _, Nat.zero_le _⟩) hS (fun q _ h => h) (fun q h => h) ?_
  intro u t H1 locs1 ht hvm hp hB hz hk hS1
  obtain rfl := hp
  obtain ⟨hP1, -, hD1⟩ := hB
  exact kk C hl (by rw [← ht]; exact hP1) hD1 hS1
end FWC
