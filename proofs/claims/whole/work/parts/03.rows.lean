/-! THE JUDGEMENT fw_R: from this place of a method, with these locals, this stack, this memory, the method comes to its end with the answer rt and the memory μ1 -/
abbrev fw_Y : Type := MethodName × ByteArray × Nat × Option FieldType
def fw_rm (d : Nat) : Room := { frames := d, cells := 0, slots := 0, locals := 40 * d }
def fw_ty (dA : Nat → ClassId) : List (ClassId × FieldType) := [(dA 0, .int), (dA 1, .boolean), (dA 2, .long), (dA 3, .object "FewTypes$Line"), (dA 4, .object "FewTypes$Sheet")]
/-- the static rows, told as cells 1000 .. -/
def fw_s0 (j : Nat) : Int32 := match j with | 0 => 0 | 1 => 0 | _ => 1
def fw_s1 (j : Nat) : Int32 := match j with | 0 => 1 | 1 => 3 | _ => 9
def fw_s2 (j : Nat) : Int64 := match j with | 0 => 6148914691236517205 | 1 => 3689348814741910323 | 2 => 1085102592571150095 | 3 => 71777214294589695 | 4 => 281470681808895 | _ => 4294967295
def fw_St (ad : Nat → Nat) (A : Nat → Prop) (U : State) (H : Heap) : Prop :=
  va_Z "FewTypes" "RULE_LEAST" "[I" (.ref (ad 1000)) A U H ∧ va_T .int (ad 1000) 3 (fun j => .int (fw_s0 j)) A U H ∧
  va_Z "FewTypes" "RULE_MOST" "[I" (.ref (ad 1001)) A U H ∧ va_T .int (ad 1001) 3 (fun j => .int (fw_s1 j)) A U H ∧
  va_Z "FewTypes$Press" "LACKING" "[J" (.ref (ad 1002)) A U H ∧ va_T .long (ad 1002) 6 (fun j => .long (fw_s2 j)) A U H
theorem fw_St.moved {ad : Nat → Nat} {A : Nat → Prop} {u U : State} {H : Heap} (hvm : u.vm.Alike U.vm) (h : fw_St ad A u H) : fw_St ad A U H := ⟨h.1.moved hvm, h.2.1.moved hvm, h.2.2.1.moved hvm, h.2.2.2.1.moved hvm, h.2.2.2.2.1.moved hvm, h.2.2.2.2.2.moved hvm⟩
theorem fw_St.kept {ad : Nat → Nat} {A : Nat → Prop} {U : State} {H H1 : Heap} (h : fw_St ad A U H) (hq : ∀ a : Nat, a < H.size → ¬ A a → H1[a]? = H[a]?) : fw_St ad A U H1 := ⟨h.1.kept hq, h.2.1.kept hq, h.2.2.1.kept hq, h.2.2.2.1.kept hq, h.2.2.2.2.1.kept hq, h.2.2.2.2.2.kept hq⟩
/-- links to private members of nest mates -/
def fw_nl : List (String × Nat × MethodName) := [("FewTypes$Case", 25, ⟨"FewTypes", "isLetter", "(I)Z"⟩), ("FewTypes$Tape", 41, ⟨"FewTypes", "isLetter", "(I)Z"⟩), ("FewTypes$Line", 28, ⟨"FewTypes", "inSet", "(II)Z"⟩), ("FewTypes$Press", 133, ⟨"FewTypes", "inSet", "(II)Z"⟩), ("FewTypes$Press", 124, ⟨"FewTypes", "cutUp", "(II)I"⟩), ("FewTypes$Orders", 59, ⟨"FewTypes", "inSet", "(II)Z"⟩), ("FewTypes$Jobs", 44, ⟨"FewTypes", "inSet", "(II)Z"⟩)]
def fw_Ne (U : State) : Prop := ∀ q ∈ fw_nl, va_Nw (.methodLinkNest q.1 q.2.1 q.2.2 "FewTypes") U
theorem fw_Ne.same {u U : State} (h : u.vm = U.vm) (hn : fw_Ne u) : fw_Ne U := fun q hq => va_Nw.same rfl h (hn q hq)
theorem fw_Ne.warm {s U : State} (hW : s.WarmedH U.vm) (hn : fw_Ne s) : fw_Ne U := fun q hq => va_Nw.warmM hW (hn q hq)
/-- a method's start -/
def fw_Pre (sh : List fw_K) (D : va_G) (dA : Nat → ClassId) (ad : Nat → Nat) (A : Nat → Prop) (μ : fw_M) (U : State) : Prop :=
  (∀ q, U.heap.size ≤ q → A q) ∧ va_P D fw_cl (fw_w sh ad dA μ) U.heap ∧ va_K D fw_cl (fw_ty dA) U ∧ va_D A (fw_w sh ad dA μ) ∧ fw_St ad A U U.heap ∧ fw_Ne U
def fw_B (sh : List fw_K) (D : va_G) (dA : Nat → ClassId) (ad : Nat → Nat) (A : Nat → Prop) (u : fw_M) (t : State) : Prop := va_P D fw_cl (fw_w sh ad dA u) t.heap ∧ va_K D fw_cl (fw_ty dA) t ∧ va_D A (fw_w sh ad dA u)
def fw_Q (sh : List fw_K) (D : va_G) (dA : Nat → ClassId) (ad : Nat → Nat) (A : Nat → Prop) (rt : Option Int32) (μ1 : fw_M) : Array Value → State → Outcome → State → Prop := match rt with
  | some r => va_Qi (fun x u => x = r ∧ u = μ1) (fw_B sh D dA ad A) A
  | none => va_Qv (fun u => u = μ1) (fw_B sh D dA ad A) A
def fw_Con (Y : fw_Y) (sh : List fw_K) (d : Nat) (as : List Value) (rt : Option Int32) (μ μ1 : fw_M) : Prop :=
  ∀ (l : Launch) (D : va_G) (dA : Nat → ClassId) (ad : Nat → Nat) (A : Nat → Prop), Met l Y.1 (Cond.code Y.1 Y.2.1 Y.2.2.1 Y.2.2.2 :: fw_tb) (fw_rm d) (va_Pc (as.map (fw_v ad)) (fw_Pre sh D dA ad A μ)) (fw_Q sh D dA ad A rt μ1) 0 0 A
def fw_Cx (own : String) (cc : ByteArray) (nL : Nat) (rty : Option FieldType) (p : Program) (s : State) (m : MethodId) (args : Array Value) (meth : Method) (c : Code) (D : va_G) (dA : Nat → ClassId) (ad : Nat → Nat) (A : Nat → Prop) : Prop :=
  p.tables.exec = Jvm.exec ∧ c.code = cc ∧ c.maxLocals = nL ∧ s.vm.findClass own = some m.cls ∧ (∀ w ∈ fw_tb, w.before args s = true) ∧ meth.sig.returnType = rty ∧ meth.locks = false ∧ va_K D fw_cl (fw_ty dA) s ∧ (∀ q, s.heap.size ≤ q → A q) ∧ fw_St ad A s s.heap ∧ fw_Ne s
def fw_R (own : String) (cc : ByteArray) (nL : Nat) (rty : Option FieldType) (sh : List fw_K) (d : Nat) (rt : Option Int32) (μ1 : fw_M) (pc : Nat) (lv : List (Nat × Value)) (st : List Value) (μ : fw_M) : Prop :=
  ∀ ⦃p : Program⦄ ⦃l : Launch⦄ ⦃e : Env⦄ ⦃s : State⦄ ⦃m : MethodId⦄ ⦃args : Array Value⦄ ⦃below : List Frame⦄ ⦃meth : Method⦄ ⦃c : Code⦄ ⦃D : va_G⦄ ⦃dA : Nat → ClassId⦄ ⦃ad : Nat → Nat⦄ ⦃A : Nat → Prop⦄ ⦃H : Heap⦄ ⦃locs : List Loc⦄ ⦃ls : Array Slot⦄,
    fw_Cx own cc nL rty p s m args meth c D dA ad A → lv_has ls nL (lv.map (fw_g ad)) → va_P D fw_cl (fw_w sh ad dA μ) H → va_D A (fw_w sh ad dA μ) → va_S A s.heap H locs →
    W p l e (fw_rm d) s m args below meth c H locs 0 0 (MQ below (fw_Q sh D dA ad A rt μ1) args s 0 0 A) (F0 m pc ls (st.map (fw_v ad)))
section FWR
variable {own : String} {cc : ByteArray} {nL : Nat} {rty : Option FieldType} {sh : List fw_K} {d : Nat} {rt : Option Int32} {μ1 : fw_M} {pc : Nat} {lv : List (Nat × Value)} {st : List Value} {μ : fw_M}
theorem fw_con {Y : fw_Y} {as : List Value} (hy : plainName Y.1.cls = true) (hl : (lg_sl as).length ≤ Y.2.2.1) (h : fw_R Y.1.cls Y.2.1 Y.2.2.1 Y.2.2.2 sh d rt μ1 0 (lv_args 0 as) [] μ) : fw_Con Y sh d as rt μ μ1 := by
  intro l D dA ad A
  refine Met.ofW (cc := Y.2.1) (maxL := Y.2.2.1) (ret := Y.2.2.2) hy rfl ?_
  intro p e s m args below meth c s₁ B hml hv
  obtain ⟨rfl, hA, hP, hK, hD, hSt, hNe⟩ := hv
  have hts := atoms_spec (ws := Cond.code Y.1 Y.2.1 Y.2.2.1 Y.2.2.2 :: fw_tb) B.pre
  have hown : s.vm.findClass Y.1.cls = some m.cls := findClass_of_methodNamed B.named
  have hlen : (lg_sl (as.map (fw_v ad))).length ≤ Y.2.2.1 := by
    have e1 : ∀ vs : List Value, (lg_sl (vs.map (fw_v ad))).length = (lg_sl vs).length := by
      intro vs
      induction vs with
      | nil => rfl
      | cons v vs ih =>
        simp only [lg_sl, List.map_cons, List.flatMap_cons, List.length_append] at ih ⊢
        rw [ih]
        cases v <;> rfl
    rw [e1]; exact hl
  have hl2 := lv_entry (as.map (fw_v ad)) (n := Y.2.2.1) hlen
  rw [fw_largs] at hl2
  rw [lg_entry_eq]
  exact h ⟨B.exec, B.bytes, hml, hown, fun w hw => hts w (List.mem_cons_of_mem _ hw), B.returns, B.notSynchronized, hK, hA, hSt, hNe⟩ hl2 hP hD va_S.rf
theorem fw_pick (ad : Nat → Nat) (l : List (Nat × Value)) (ks : List Nat) : lv_pick (l.map (fw_g ad)) ks = (lv_pick l ks).map (fw_g ad) := by
  induction ks with
  | nil => rfl
  | cons a ks ih =>
    simp only [lv_pick, List.filterMap_cons, List.getElem?_map] at ih ⊢
    cases l[a]? with
    | none => exact ih
    | some q => simp only [Option.map_some, List.map_cons]; rw [ih]
theorem fw_sub {lv1 : List (Nat × Value)} (ks : List Nat) (h : lv_pick lv ks = lv1) (k : fw_R own cc nL rty sh d rt μ1 pc lv1 st μ) : fw_R own cc nL rty sh d rt μ1 pc lv st μ := by
  intro p l e s m args below meth c D dA ad A H locs ls C hl hP hD hS
  refine k C (lv_sub hl ks ?_) hP hD hS
  rw [← h]
  exact fw_pick ad lv ks
theorem fw_top {x y : Int32} (h : y = x) (k : fw_R own cc nL rty sh d rt μ1 pc lv (.int y :: st) μ) : fw_R own cc nL rty sh d rt μ1 pc lv (.int x :: st) μ := h ▸ k
theorem fw_topl {x y : Int64} (h : y = x) (k : fw_R own cc nL rty sh d rt μ1 pc lv (.long y :: st) μ) : fw_R own cc nL rty sh d rt μ1 pc lv (.long x :: st) μ := h ▸ k
theorem fw_mem {μ2 : fw_M} (h : μ2 = μ) (k : fw_R own cc nL rty sh d rt μ1 pc lv st μ2) : fw_R own cc nL rty sh d rt μ1 pc lv st μ := h ▸ k
-- constants
theorem fw_iconst {n : Int} {v : Int32} (hd : decode cc pc = .ok (.iconst n, 1)) (hv : Int32.ofInt n = v) (k : fw_R own cc nL rty sh d rt μ1 (pc + 1) lv (.int v :: st) μ) : fw_R own cc nL rty sh d rt μ1 pc lv st μ := fun _ _ _ _ _ _ _ _ _ _ _ _ _ _ _ _ C hl hP hD hS => lv_iconst C.1 C.2.1 hd hv (k C hl hP hD hS)
theorem fw_bipush {n : Int} {v : Int32} (hd : decode cc pc = .ok (.bipush n, 2)) (hv : (Int8.ofInt n).toInt32 = v) (k : fw_R own cc nL rty sh d rt μ1 (pc + 2) lv (.int v :: st) μ) : fw_R own cc nL rty sh d rt μ1 pc lv st μ := fun _ _ _ _ _ _ _ _ _ _ _ _ _ _ _ _ C hl hP hD hS => lv_bipush C.1 C.2.1 hd hv (k C hl hP hD hS)
theorem fw_sipush {n : Int} {v : Int32} (hd : decode cc pc = .ok (.sipush n, 3)) (hv : (Int16.ofInt n).toInt32 = v) (k : fw_R own cc nL rty sh d rt μ1 (pc + 3) lv (.int v :: st) μ) : fw_R own cc nL rty sh d rt μ1 pc lv st μ := fun _ _ _ _ _ _ _ _ _ _ _ _ _ _ _ _ C hl hP hD hS => lv_sipush C.1 C.2.1 hd hv (k C hl hP hD hS)
theorem fw_lconst {n : Fin 2} {v : Int64} (hd : decode cc pc = .ok (.lconst n, 1)) (hv : Int64.ofNat (n : Nat) = v) (k : fw_R own cc nL rty sh d rt μ1 (pc + 1) lv (.long v :: st) μ) : fw_R own cc nL rty sh d rt μ1 pc lv st μ := fun _ _ _ _ _ _ _ _ _ _ _ _ _ _ _ _ C hl hP hD hS => lv_lconst C.1 C.2.1 hd hv (k C hl hP hD hS)
theorem fw_ldcw {index : Nat} {v : Int32} (hd : decode cc pc = .ok (.ldc_w index, 3)) (hw : Cond.constant own index v ∈ fw_tb) (k : fw_R own cc nL rty sh d rt μ1 (pc + 3) lv (.int v :: st) μ) : fw_R own cc nL rty sh d rt μ1 pc lv st μ := fun _ _ _ _ _ _ _ _ _ _ _ _ _ _ _ _ C hl hP hD hS => lv_ldcw C.1 C.2.1 C.2.2.2.1 (C.2.2.2.2.1 _ hw) hd (k C hl hP hD hS)
theorem fw_ldc2 {index : Nat} {v : Int64} (hd : decode cc pc = .ok (.ldc2_w index, 3)) (hw : Cond.constantLong own index v ∈ fw_tb) (k : fw_R own cc nL rty sh d rt μ1 (pc + 3) lv (.long v :: st) μ) : fw_R own cc nL rty sh d rt μ1 pc lv st μ := fun _ _ _ _ _ _ _ _ _ _ _ _ _ _ _ _ C hl hP hD hS => lv_ldc2 C.1 C.2.1 C.2.2.2.1 (C.2.2.2.2.1 _ hw) hd (k C hl hP hD hS)
-- locals
theorem fw_iload_n {k : Fin 4} {i : Nat} {x : Int32} (hd : decode cc pc = .ok (.iload_n k, 1)) (j : Nat) (hi : (k : Nat) = i) (h : lv[j]? = some (i, .int x)) (kk : fw_R own cc nL rty sh d rt μ1 (pc + 1) lv (.int x :: st) μ) : fw_R own cc nL rty sh d rt μ1 pc lv st μ := fun _ _ _ _ _ _ _ _ _ _ _ _ _ _ _ _ C hl hP hD hS => lv_iload_n C.1 C.2.1 hd hi (fw_lat hl j h) (kk C hl hP hD hS)
theorem fw_iload {i : Nat} {x : Int32} (hd : decode cc pc = .ok (.iload i, 2)) (j : Nat) (h : lv[j]? = some (i, .int x)) (kk : fw_R own cc nL rty sh d rt μ1 (pc + 2) lv (.int x :: st) μ) : fw_R own cc nL rty sh d rt μ1 pc lv st μ := fun _ _ _ _ _ _ _ _ _ _ _ _ _ _ _ _ C hl hP hD hS => lv_iload C.1 C.2.1 hd (fw_lat hl j h) (kk C hl hP hD hS)
theorem fw_lload_n {k : Fin 4} {i : Nat} {x : Int64} (hd : decode cc pc = .ok (.lload_n k, 1)) (j : Nat) (hi : (k : Nat) = i) (h : lv[j]? = some (i, .long x)) (kk : fw_R own cc nL rty sh d rt μ1 (pc + 1) lv (.long x :: st) μ) : fw_R own cc nL rty sh d rt μ1 pc lv st μ := fun _ _ _ _ _ _ _ _ _ _ _ _ _ _ _ _ C hl hP hD hS => lv_lload_n C.1 C.2.1 hd hi (fw_lat hl j h) (kk C hl hP hD hS)
theorem fw_lload {i : Nat} {x : Int64} (hd : decode cc pc = .ok (.lload i, 2)) (j : Nat) (h : lv[j]? = some (i, .long x)) (kk : fw_R own cc nL rty sh d rt μ1 (pc + 2) lv (.long x :: st) μ) : fw_R own cc nL rty sh d rt μ1 pc lv st μ := fun _ _ _ _ _ _ _ _ _ _ _ _ _ _ _ _ C hl hP hD hS => lv_lload C.1 C.2.1 hd (fw_lat hl j h) (kk C hl hP hD hS)
theorem fw_aload_n {k : Fin 4} {i : Nat} {x : Nat} (hd : decode cc pc = .ok (.aload_n k, 1)) (j : Nat) (hi : (k : Nat) = i) (h : lv[j]? = some (i, .ref x)) (kk : fw_R own cc nL rty sh d rt μ1 (pc + 1) lv (.ref x :: st) μ) : fw_R own cc nL rty sh d rt μ1 pc lv st μ := fun _ _ _ _ _ _ _ _ _ _ _ _ _ _ _ _ C hl hP hD hS => lv_aload_n C.1 C.2.1 hd hi (fw_lat hl j h) (kk C hl hP hD hS)
theorem fw_aload {i : Nat} {x : Nat} (hd : decode cc pc = .ok (.aload i, 2)) (j : Nat) (h : lv[j]? = some (i, .ref x)) (kk : fw_R own cc nL rty sh d rt μ1 (pc + 2) lv (.ref x :: st) μ) : fw_R own cc nL rty sh d rt μ1 pc lv st μ := fun _ _ _ _ _ _ _ _ _ _ _ _ _ _ _ _ C hl hP hD hS => lv_aload C.1 C.2.1 hd (fw_lat hl j h) (kk C hl hP hD hS)
theorem fw_istore_n {k : Fin 4} {i : Nat} {x : Int32} {lv1 : List (Nat × Value)} (hd : decode cc pc = .ok (.istore_n k, 1)) (hi : (k : Nat) = i) (hn : i < nL) (h : (i, Value.int x) :: lv.filter (fun q => !(q.1 == i) && !(q.1 + 1 == i && q.2.category == 2)) = lv1) (kk : fw_R own cc nL rty sh d rt μ1 (pc + 1) lv1 st μ) : fw_R own cc nL rty sh d rt μ1 pc lv (.int x :: st) μ := fun ⦃p l e s m args below meth c D dA ad A H locs ls⦄ C hl hP hD hS => lv_istore_n (lv' := lv1.map (fw_g ad)) C.1 C.2.1 hd hi hl hn (by rw [fw_fil, ← h]; rfl) (fun ls1 hl1 => kk C hl1 hP hD hS)
theorem fw_istore {i : Nat} {x : Int32} {lv1 : List (Nat × Value)} (hd : decode cc pc = .ok (.istore i, 2)) (hn : i < nL) (h : (i, Value.int x) :: lv.filter (fun q => !(q.1 == i) && !(q.1 + 1 == i && q.2.category == 2)) = lv1) (kk : fw_R own cc nL rty sh d rt μ1 (pc + 2) lv1 st μ) : fw_R own cc nL rty sh d rt μ1 pc lv (.int x :: st) μ := fun ⦃p l e s m args below meth c D dA ad A H locs ls⦄ C hl hP hD hS => lv_istore (lv' := lv1.map (fw_g ad)) C.1 C.2.1 hd hl hn (by rw [fw_fil, ← h]; rfl) (fun ls1 hl1 => kk C hl1 hP hD hS)
theorem fw_astore_n {k : Fin 4} {i : Nat} {x : Nat} {lv1 : List (Nat × Value)} (hd : decode cc pc = .ok (.astore_n k, 1)) (hi : (k : Nat) = i) (hn : i < nL) (h : (i, Value.ref x) :: lv.filter (fun q => !(q.1 == i) && !(q.1 + 1 == i && q.2.category == 2)) = lv1) (kk : fw_R own cc nL rty sh d rt μ1 (pc + 1) lv1 st μ) : fw_R own cc nL rty sh d rt μ1 pc lv (.ref x :: st) μ := fun ⦃p l e s m args below meth c D dA ad A H locs ls⦄ C hl hP hD hS => lv_astore_n (lv' := lv1.map (fw_g ad)) C.1 C.2.1 hd hi hl hn (by rw [fw_fil, ← h]; rfl) (fun ls1 hl1 => kk C hl1 hP hD hS)
theorem fw_astore {i : Nat} {x : Nat} {lv1 : List (Nat × Value)} (hd : decode cc pc = .ok (.astore i, 2)) (hn : i < nL) (h : (i, Value.ref x) :: lv.filter (fun q => !(q.1 == i) && !(q.1 + 1 == i && q.2.category == 2)) = lv1) (kk : fw_R own cc nL rty sh d rt μ1 (pc + 2) lv1 st μ) : fw_R own cc nL rty sh d rt μ1 pc lv (.ref x :: st) μ := fun ⦃p l e s m args below meth c D dA ad A H locs ls⦄ C hl hP hD hS => lv_astore (lv' := lv1.map (fw_g ad)) C.1 C.2.1 hd hl hn (by rw [fw_fil, ← h]; rfl) (fun ls1 hl1 => kk C hl1 hP hD hS)
theorem fw_lstore {i : Nat} {x : Int64} {lv1 : List (Nat × Value)} (hd : decode cc pc = .ok (.lstore i, 2)) (hn : i + 1 < nL) (h : (i, Value.long x) :: lv.filter (fun q => !(q.1 == i) && (!(q.1 == i + 1) && !(q.1 + 1 == i && q.2.category == 2))) = lv1) (kk : fw_R own cc nL rty sh d rt μ1 (pc + 2) lv1 st μ) : fw_R own cc nL rty sh d rt μ1 pc lv (.long x :: st) μ := fun ⦃p l e s m args below meth c D dA ad A H locs ls⦄ C hl hP hD hS => lv_lstore (lv' := lv1.map (fw_g ad)) C.1 C.2.1 hd hl hn (by rw [fw_fil2, ← h]; rfl) (fun ls1 hl1 => kk C hl1 hP hD hS)
theorem fw_iinc {i j : Nat} {n : Int} {x v : Int32} {lv1 : List (Nat × Value)} (hd : decode cc pc = .ok (.iinc i n, 3)) (hj : lv[j]? = some (i, .int x)) (hv : v = x + Int32.ofInt n) (hn : i < nL) (h : (i, Value.int v) :: lv.filter (fun q => !(q.1 == i) && !(q.1 + 1 == i && q.2.category == 2)) = lv1) (kk : fw_R own cc nL rty sh d rt μ1 (pc + 3) lv1 st μ) : fw_R own cc nL rty sh d rt μ1 pc lv st μ := fun ⦃p l e s m args below meth c D dA ad A H locs ls⦄ C hl hP hD hS => lv_iinc (k := j) (x := x) (lv' := lv1.map (fw_g ad)) C.1 C.2.1 hd hl (by rw [List.getElem?_map, hj]; rfl) hv.symm hn (by rw [fw_fil, ← h]; rfl) (fun ls1 hl1 => kk C hl1 hP hD hS)
-- stack
theorem fw_dup {v : Value} (hd : decode cc pc = .ok (.dup, 1)) (hv : v.category = 1) (k : fw_R own cc nL rty sh d rt μ1 (pc + 1) lv (v :: v :: st) μ) : fw_R own cc nL rty sh d rt μ1 pc lv (v :: st) μ := fun _ _ _ _ _ _ _ _ _ _ _ _ _ _ _ _ C hl hP hD hS => lv_dup C.1 C.2.1 hd ((fw_vcat _ v).trans hv) (k C hl hP hD hS)
theorem fw_pop {v : Value} (hd : decode cc pc = .ok (.pop, 1)) (hv : v.category = 1) (k : fw_R own cc nL rty sh d rt μ1 (pc + 1) lv st μ) : fw_R own cc nL rty sh d rt μ1 pc lv (v :: st) μ := fun _ _ _ _ _ _ _ _ _ _ _ _ _ _ _ _ C hl hP hD hS => lv_pop C.1 C.2.1 hd ((fw_vcat _ v).trans hv) (k C hl hP hD hS)
theorem fw_dup2 {v w : Value} (hd : decode cc pc = .ok (.dup2, 1)) (hv : v.category = 1) (hw : w.category = 1) (k : fw_R own cc nL rty sh d rt μ1 (pc + 1) lv (v :: w :: v :: w :: st) μ) : fw_R own cc nL rty sh d rt μ1 pc lv (v :: w :: st) μ := fun _ _ _ _ _ _ _ _ _ _ _ _ _ _ _ _ C hl hP hD hS => lv_dup2_11 C.1 C.2.1 hd ((fw_vcat _ v).trans hv) ((fw_vcat _ w).trans hw) (k C hl hP hD hS)
-- ints
theorem fw_iadd {x y : Int32} (hd : decode cc pc = .ok (.iadd, 1)) (k : fw_R own cc nL rty sh d rt μ1 (pc + 1) lv (.int (x + y) :: st) μ) : fw_R own cc nL rty sh d rt μ1 pc lv (.int y :: .int x :: st) μ := fun _ _ _ _ _ _ _ _ _ _ _ _ _ _ _ _ C hl hP hD hS => lv_iadd C.1 C.2.1 hd (k C hl hP hD hS)
theorem fw_isub {x y : Int32} (hd : decode cc pc = .ok (.isub, 1)) (k : fw_R own cc nL rty sh d rt μ1 (pc + 1) lv (.int (x - y) :: st) μ) : fw_R own cc nL rty sh d rt μ1 pc lv (.int y :: .int x :: st) μ := fun _ _ _ _ _ _ _ _ _ _ _ _ _ _ _ _ C hl hP hD hS => lv_isub C.1 C.2.1 hd (k C hl hP hD hS)
theorem fw_imul {x y : Int32} (hd : decode cc pc = .ok (.imul, 1)) (k : fw_R own cc nL rty sh d rt μ1 (pc + 1) lv (.int (x * y) :: st) μ) : fw_R own cc nL rty sh d rt μ1 pc lv (.int y :: .int x :: st) μ := fun _ _ _ _ _ _ _ _ _ _ _ _ _ _ _ _ C hl hP hD hS => lv_imul C.1 C.2.1 hd (k C hl hP hD hS)
theorem fw_iand {x y : Int32} (hd : decode cc pc = .ok (.iand, 1)) (k : fw_R own cc nL rty sh d rt μ1 (pc + 1) lv (.int (x &&& y) :: st) μ) : fw_R own cc nL rty sh d rt μ1 pc lv (.int y :: .int x :: st) μ := fun _ _ _ _ _ _ _ _ _ _ _ _ _ _ _ _ C hl hP hD hS => lv_iand C.1 C.2.1 hd (k C hl hP hD hS)
theorem fw_ior {x y : Int32} (hd : decode cc pc = .ok (.ior, 1)) (k : fw_R own cc nL rty sh d rt μ1 (pc + 1) lv (.int (x ||| y) :: st) μ) : fw_R own cc nL rty sh d rt μ1 pc lv (.int y :: .int x :: st) μ := fun _ _ _ _ _ _ _ _ _ _ _ _ _ _ _ _ C hl hP hD hS => lv_ior C.1 C.2.1 hd (k C hl hP hD hS)
theorem fw_ixor {x y : Int32} (hd : decode cc pc = .ok (.ixor, 1)) (k : fw_R own cc nL rty sh d rt μ1 (pc + 1) lv (.int (x ^^^ y) :: st) μ) : fw_R own cc nL rty sh d rt μ1 pc lv (.int y :: .int x :: st) μ := fun _ _ _ _ _ _ _ _ _ _ _ _ _ _ _ _ C hl hP hD hS => lv_ixor C.1 C.2.1 hd (k C hl hP hD hS)
theorem fw_ishl {x y : Int32} (hd : decode cc pc = .ok (.ishl, 1)) (k : fw_R own cc nL rty sh d rt μ1 (pc + 1) lv (.int (x <<< (y &&& 31)) :: st) μ) : fw_R own cc nL rty sh d rt μ1 pc lv (.int y :: .int x :: st) μ := fun _ _ _ _ _ _ _ _ _ _ _ _ _ _ _ _ C hl hP hD hS => lv_ishl C.1 C.2.1 hd (k C hl hP hD hS)
theorem fw_ishr {x y : Int32} (hd : decode cc pc = .ok (.ishr, 1)) (k : fw_R own cc nL rty sh d rt μ1 (pc + 1) lv (.int (x >>> (y &&& 31)) :: st) μ) : fw_R own cc nL rty sh d rt μ1 pc lv (.int y :: .int x :: st) μ := fun _ _ _ _ _ _ _ _ _ _ _ _ _ _ _ _ C hl hP hD hS => lv_ishr C.1 C.2.1 hd (k C hl hP hD hS)
theorem fw_iushr {x y : Int32} (hd : decode cc pc = .ok (.iushr, 1)) (k : fw_R own cc nL rty sh d rt μ1 (pc + 1) lv (.int ((x.toUInt32 >>> (y.toUInt32 &&& Int32.toUInt32 31)).toInt32) :: st) μ) : fw_R own cc nL rty sh d rt μ1 pc lv (.int y :: .int x :: st) μ := fun _ _ _ _ _ _ _ _ _ _ _ _ _ _ _ _ C hl hP hD hS => lv_iushr C.1 C.2.1 hd rfl (k C hl hP hD hS)
theorem fw_idiv {x y v : Int32} (hd : decode cc pc = .ok (.idiv, 1)) (hv : fw_dv x y = some v) (k : fw_R own cc nL rty sh d rt μ1 (pc + 1) lv (.int v :: st) μ) : fw_R own cc nL rty sh d rt μ1 pc lv (.int y :: .int x :: st) μ := by
  unfold fw_dv at hv
  split at hv
  · cases hv
  · rename_i h0; cases hv; exact fun _ _ _ _ _ _ _ _ _ _ _ _ _ _ _ _ C hl hP hD hS => lv_idiv C.1 C.2.1 hd h0 (k C hl hP hD hS)
theorem fw_irem {x y v : Int32} (hd : decode cc pc = .ok (.irem, 1)) (hv : fw_rm2 x y = some v) (k : fw_R own cc nL rty sh d rt μ1 (pc + 1) lv (.int v :: st) μ) : fw_R own cc nL rty sh d rt μ1 pc lv (.int y :: .int x :: st) μ := by
  unfold fw_rm2 at hv
  split at hv
  · cases hv
  · rename_i h0; cases hv; exact fun _ _ _ _ _ _ _ _ _ _ _ _ _ _ _ _ C hl hP hD hS => lv_irem C.1 C.2.1 hd h0 (k C hl hP hD hS)
theorem fw_i2l {x : Int32} (hd : decode cc pc = .ok (.i2l, 1)) (k : fw_R own cc nL rty sh d rt μ1 (pc + 1) lv (.long x.toInt64 :: st) μ) : fw_R own cc nL rty sh d rt μ1 pc lv (.int x :: st) μ := fun _ _ _ _ _ _ _ _ _ _ _ _ _ _ _ _ C hl hP hD hS => lv_i2l C.1 C.2.1 hd rfl (k C hl hP hD hS)
theorem fw_i2b {x : Int32} (hd : decode cc pc = .ok (.i2b, 1)) (k : fw_R own cc nL rty sh d rt μ1 (pc + 1) lv (.int x.toInt8.toInt32 :: st) μ) : fw_R own cc nL rty sh d rt μ1 pc lv (.int x :: st) μ := fun _ _ _ _ _ _ _ _ _ _ _ _ _ _ _ _ C hl hP hD hS => lv_i2b C.1 C.2.1 hd rfl (k C hl hP hD hS)
theorem fw_i2s {x : Int32} (hd : decode cc pc = .ok (.i2s, 1)) (k : fw_R own cc nL rty sh d rt μ1 (pc + 1) lv (.int x.toInt16.toInt32 :: st) μ) : fw_R own cc nL rty sh d rt μ1 pc lv (.int x :: st) μ := fun _ _ _ _ _ _ _ _ _ _ _ _ _ _ _ _ C hl hP hD hS => lv_i2s C.1 C.2.1 hd rfl (k C hl hP hD hS)
-- longs
theorem fw_l2i {x : Int64} (hd : decode cc pc = .ok (.l2i, 1)) (k : fw_R own cc nL rty sh d rt μ1 (pc + 1) lv (.int x.toInt32 :: st) μ) : fw_R own cc nL rty sh d rt μ1 pc lv (.long x :: st) μ := fun _ _ _ _ _ _ _ _ _ _ _ _ _ _ _ _ C hl hP hD hS => lv_l2i C.1 C.2.1 hd rfl (k C hl hP hD hS)
theorem fw_ladd {x y : Int64} (hd : decode cc pc = .ok (.ladd, 1)) (k : fw_R own cc nL rty sh d rt μ1 (pc + 1) lv (.long (x + y) :: st) μ) : fw_R own cc nL rty sh d rt μ1 pc lv (.long y :: .long x :: st) μ := fun _ _ _ _ _ _ _ _ _ _ _ _ _ _ _ _ C hl hP hD hS => lv_ladd C.1 C.2.1 hd (k C hl hP hD hS)
theorem fw_lsub {x y : Int64} (hd : decode cc pc = .ok (.lsub, 1)) (k : fw_R own cc nL rty sh d rt μ1 (pc + 1) lv (.long (x - y) :: st) μ) : fw_R own cc nL rty sh d rt μ1 pc lv (.long y :: .long x :: st) μ := fun _ _ _ _ _ _ _ _ _ _ _ _ _ _ _ _ C hl hP hD hS => lv_lsub C.1 C.2.1 hd (k C hl hP hD hS)
theorem fw_land {x y : Int64} (hd : decode cc pc = .ok (.land, 1)) (k : fw_R own cc nL rty sh d rt μ1 (pc + 1) lv (.long (x &&& y) :: st) μ) : fw_R own cc nL rty sh d rt μ1 pc lv (.long y :: .long x :: st) μ := fun _ _ _ _ _ _ _ _ _ _ _ _ _ _ _ _ C hl hP hD hS => lv_land C.1 C.2.1 hd (k C hl hP hD hS)
theorem fw_lor {x y : Int64} (hd : decode cc pc = .ok (.lor, 1)) (k : fw_R own cc nL rty sh d rt μ1 (pc + 1) lv (.long (x ||| y) :: st) μ) : fw_R own cc nL rty sh d rt μ1 pc lv (.long y :: .long x :: st) μ := fun _ _ _ _ _ _ _ _ _ _ _ _ _ _ _ _ C hl hP hD hS => lv_lor C.1 C.2.1 hd (k C hl hP hD hS)
theorem fw_lshl {x : Int64} {y : Int32} (hd : decode cc pc = .ok (.lshl, 1)) (k : fw_R own cc nL rty sh d rt μ1 (pc + 1) lv (.long (x <<< (y.toInt64 &&& 63)) :: st) μ) : fw_R own cc nL rty sh d rt μ1 pc lv (.int y :: .long x :: st) μ := fun _ _ _ _ _ _ _ _ _ _ _ _ _ _ _ _ C hl hP hD hS => lv_lshl C.1 C.2.1 hd rfl (k C hl hP hD hS)
theorem fw_lshr {x : Int64} {y : Int32} (hd : decode cc pc = .ok (.lshr, 1)) (k : fw_R own cc nL rty sh d rt μ1 (pc + 1) lv (.long (x >>> (y.toInt64 &&& 63)) :: st) μ) : fw_R own cc nL rty sh d rt μ1 pc lv (.int y :: .long x :: st) μ := fun _ _ _ _ _ _ _ _ _ _ _ _ _ _ _ _ C hl hP hD hS => lv_lshr C.1 C.2.1 hd rfl (k C hl hP hD hS)
theorem fw_lushr {x : Int64} {y : Int32} (hd : decode cc pc = .ok (.lushr, 1)) (k : fw_R own cc nL rty sh d rt μ1 (pc + 1) lv (.long ((x.toUInt64 >>> (y.toInt64.toUInt64 &&& Int64.toUInt64 63)).toInt64) :: st) μ) : fw_R own cc nL rty sh d rt μ1 pc lv (.int y :: .long x :: st) μ := fun _ _ _ _ _ _ _ _ _ _ _ _ _ _ _ _ C hl hP hD hS => lv_lushr C.1 C.2.1 hd rfl (k C hl hP hD hS)
theorem fw_lcmp {x y : Int64} (hd : decode cc pc = .ok (.lcmp, 1)) (k : fw_R own cc nL rty sh d rt μ1 (pc + 1) lv (.int (lg_cmp x y) :: st) μ) : fw_R own cc nL rty sh d rt μ1 pc lv (.long y :: .long x :: st) μ := fun _ _ _ _ _ _ _ _ _ _ _ _ _ _ _ _ C hl hP hD hS => W.lcmp C.1 C.2.1 hd (k C hl hP hD hS)
theorem fw_ldiv {x y v : Int64} (hd : decode cc pc = .ok (.ldiv, 1)) (hv : fw_ld x y = some v) (k : fw_R own cc nL rty sh d rt μ1 (pc + 1) lv (.long v :: st) μ) : fw_R own cc nL rty sh d rt μ1 pc lv (.long y :: .long x :: st) μ := by
  unfold fw_ld at hv
  split at hv
  · cases hv
  · rename_i h0; cases hv; exact fun _ _ _ _ _ _ _ _ _ _ _ _ _ _ _ _ C hl hP hD hS => lv_ldiv C.1 C.2.1 hd h0 (k C hl hP hD hS)
theorem fw_lrem {x y v : Int64} (hd : decode cc pc = .ok (.lrem, 1)) (hv : fw_lr x y = some v) (k : fw_R own cc nL rty sh d rt μ1 (pc + 1) lv (.long v :: st) μ) : fw_R own cc nL rty sh d rt μ1 pc lv (.long y :: .long x :: st) μ := by
  unfold fw_lr at hv
  split at hv
  · cases hv
  · rename_i h0; cases hv; exact fun _ _ _ _ _ _ _ _ _ _ _ _ _ _ _ _ C hl hP hD hS => lv_lrem C.1 C.2.1 hd h0 (k C hl hP hD hS)
-- branches
theorem fw_goto {off : Int} {tgt : Nat} (hd : decode cc pc = .ok (.goto off, 3)) (ht : (pc : Int) + off = (tgt : Int)) (k : fw_R own cc nL rty sh d rt μ1 tgt lv st μ) : fw_R own cc nL rty sh d rt μ1 pc lv st μ := fun _ _ _ _ _ _ _ _ _ _ _ _ _ _ _ _ C hl hP hD hS => lv_goto C.1 C.2.1 hd ht (k C hl hP hD hS)
theorem fw_if_eq {x : Int32} {off : Int} {tgt : Nat} (hd : decode cc pc = .ok (.ifCond .eq off, 3)) (ht : (pc : Int) + off = (tgt : Int)) (kp : x = 0 → fw_R own cc nL rty sh d rt μ1 tgt lv st μ) (kn : ¬ x = 0 → fw_R own cc nL rty sh d rt μ1 (pc + 3) lv st μ) : fw_R own cc nL rty sh d rt μ1 pc lv (.int x :: st) μ := fun _ _ _ _ _ _ _ _ _ _ _ _ _ _ _ _ C hl hP hD hS => lv_if_eq C.1 C.2.1 hd ht (fun h => kp h C hl hP hD hS) (fun h => kn h C hl hP hD hS)
theorem fw_icmp_eq {x y : Int32} {off : Int} {tgt : Nat} (hd : decode cc pc = .ok (.if_icmp .eq off, 3)) (ht : (pc : Int) + off = (tgt : Int)) (kp : x = y → fw_R own cc nL rty sh d rt μ1 tgt lv st μ) (kn : ¬ x = y → fw_R own cc nL rty sh d rt μ1 (pc + 3) lv st μ) : fw_R own cc nL rty sh d rt μ1 pc lv (.int y :: .int x :: st) μ := fun _ _ _ _ _ _ _ _ _ _ _ _ _ _ _ _ C hl hP hD hS => lv_icmp_eq C.1 C.2.1 hd ht (fun h => kp h C hl hP hD hS) (fun h => kn h C hl hP hD hS)
theorem fw_if_ne {x : Int32} {off : Int} {tgt : Nat} (hd : decode cc pc = .ok (.ifCond .ne off, 3)) (ht : (pc : Int) + off = (tgt : Int)) (kp : x = 0 → fw_R own cc nL rty sh d rt μ1 (pc + 3) lv st μ) (kn : ¬ x = 0 → fw_R own cc nL rty sh d rt μ1 tgt lv st μ) : fw_R own cc nL rty sh d rt μ1 pc lv (.int x :: st) μ := fun _ _ _ _ _ _ _ _ _ _ _ _ _ _ _ _ C hl hP hD hS => lv_if_ne C.1 C.2.1 hd ht (fun h => kn h C hl hP hD hS) (fun h => kp h C hl hP hD hS)
theorem fw_icmp_ne {x y : Int32} {off : Int} {tgt : Nat} (hd : decode cc pc = .ok (.if_icmp .ne off, 3)) (ht : (pc : Int) + off = (tgt : Int)) (kp : x = y → fw_R own cc nL rty sh d rt μ1 (pc + 3) lv st μ) (kn : ¬ x = y → fw_R own cc nL rty sh d rt μ1 tgt lv st μ) : fw_R own cc nL rty sh d rt μ1 pc lv (.int y :: .int x :: st) μ := fun _ _ _ _ _ _ _ _ _ _ _ _ _ _ _ _ C hl hP hD hS => lv_icmp_ne C.1 C.2.1 hd ht (fun h => kn h C hl hP hD hS) (fun h => kp h C hl hP hD hS)
theorem fw_if_lt {x : Int32} {off : Int} {tgt : Nat} (hd : decode cc pc = .ok (.ifCond .lt off, 3)) (ht : (pc : Int) + off = (tgt : Int)) (kp : x < 0 → fw_R own cc nL rty sh d rt μ1 tgt lv st μ) (kn : ¬ x < 0 → fw_R own cc nL rty sh d rt μ1 (pc + 3) lv st μ) : fw_R own cc nL rty sh d rt μ1 pc lv (.int x :: st) μ := fun _ _ _ _ _ _ _ _ _ _ _ _ _ _ _ _ C hl hP hD hS => lv_if_lt C.1 C.2.1 hd ht (fun h => kp h C hl hP hD hS) (fun h => kn h C hl hP hD hS)
theorem fw_icmp_lt {x y : Int32} {off : Int} {tgt : Nat} (hd : decode cc pc = .ok (.if_icmp .lt off, 3)) (ht : (pc : Int) + off = (tgt : Int)) (kp : x < y → fw_R own cc nL rty sh d rt μ1 tgt lv st μ) (kn : ¬ x < y → fw_R own cc nL rty sh d rt μ1 (pc + 3) lv st μ) : fw_R own cc nL rty sh d rt μ1 pc lv (.int y :: .int x :: st) μ := fun _ _ _ _ _ _ _ _ _ _ _ _ _ _ _ _ C hl hP hD hS => lv_icmp_lt C.1 C.2.1 hd ht (fun h => kp h C hl hP hD hS) (fun h => kn h C hl hP hD hS)
theorem fw_if_ge {x : Int32} {off : Int} {tgt : Nat} (hd : decode cc pc = .ok (.ifCond .ge off, 3)) (ht : (pc : Int) + off = (tgt : Int)) (kp : 0 ≤ x → fw_R own cc nL rty sh d rt μ1 tgt lv st μ) (kn : ¬ 0 ≤ x → fw_R own cc nL rty sh d rt μ1 (pc + 3) lv st μ) : fw_R own cc nL rty sh d rt μ1 pc lv (.int x :: st) μ := fun _ _ _ _ _ _ _ _ _ _ _ _ _ _ _ _ C hl hP hD hS => lv_if_ge C.1 C.2.1 hd ht (fun h => kp h C hl hP hD hS) (fun h => kn h C hl hP hD hS)
theorem fw_icmp_ge {x y : Int32} {off : Int} {tgt : Nat} (hd : decode cc pc = .ok (.if_icmp .ge off, 3)) (ht : (pc : Int) + off = (tgt : Int)) (kp : y ≤ x → fw_R own cc nL rty sh d rt μ1 tgt lv st μ) (kn : ¬ y ≤ x → fw_R own cc nL rty sh d rt μ1 (pc + 3) lv st μ) : fw_R own cc nL rty sh d rt μ1 pc lv (.int y :: .int x :: st) μ := fun _ _ _ _ _ _ _ _ _ _ _ _ _ _ _ _ C hl hP hD hS => lv_icmp_ge C.1 C.2.1 hd ht (fun h => kp h C hl hP hD hS) (fun h => kn h C hl hP hD hS)
theorem fw_if_gt {x : Int32} {off : Int} {tgt : Nat} (hd : decode cc pc = .ok (.ifCond .gt off, 3)) (ht : (pc : Int) + off = (tgt : Int)) (kp : 0 < x → fw_R own cc nL rty sh d rt μ1 tgt lv st μ) (kn : ¬ 0 < x → fw_R own cc nL rty sh d rt μ1 (pc + 3) lv st μ) : fw_R own cc nL rty sh d rt μ1 pc lv (.int x :: st) μ := fun _ _ _ _ _ _ _ _ _ _ _ _ _ _ _ _ C hl hP hD hS => lv_if_gt C.1 C.2.1 hd ht (fun h => kp h C hl hP hD hS) (fun h => kn h C hl hP hD hS)
theorem fw_icmp_gt {x y : Int32} {off : Int} {tgt : Nat} (hd : decode cc pc = .ok (.if_icmp .gt off, 3)) (ht : (pc : Int) + off = (tgt : Int)) (kp : y < x → fw_R own cc nL rty sh d rt μ1 tgt lv st μ) (kn : ¬ y < x → fw_R own cc nL rty sh d rt μ1 (pc + 3) lv st μ) : fw_R own cc nL rty sh d rt μ1 pc lv (.int y :: .int x :: st) μ := fun _ _ _ _ _ _ _ _ _ _ _ _ _ _ _ _ C hl hP hD hS => lv_icmp_gt C.1 C.2.1 hd ht (fun h => kp h C hl hP hD hS) (fun h => kn h C hl hP hD hS)
theorem fw_if_le {x : Int32} {off : Int} {tgt : Nat} (hd : decode cc pc = .ok (.ifCond .le off, 3)) (ht : (pc : Int) + off = (tgt : Int)) (kp : x ≤ 0 → fw_R own cc nL rty sh d rt μ1 tgt lv st μ) (kn : ¬ x ≤ 0 → fw_R own cc nL rty sh d rt μ1 (pc + 3) lv st μ) : fw_R own cc nL rty sh d rt μ1 pc lv (.int x :: st) μ := fun _ _ _ _ _ _ _ _ _ _ _ _ _ _ _ _ C hl hP hD hS => lv_if_le C.1 C.2.1 hd ht (fun h => kp h C hl hP hD hS) (fun h => kn h C hl hP hD hS)
theorem fw_icmp_le {x y : Int32} {off : Int} {tgt : Nat} (hd : decode cc pc = .ok (.if_icmp .le off, 3)) (ht : (pc : Int) + off = (tgt : Int)) (kp : x ≤ y → fw_R own cc nL rty sh d rt μ1 tgt lv st μ) (kn : ¬ x ≤ y → fw_R own cc nL rty sh d rt μ1 (pc + 3) lv st μ) : fw_R own cc nL rty sh d rt μ1 pc lv (.int y :: .int x :: st) μ := fun _ _ _ _ _ _ _ _ _ _ _ _ _ _ _ _ C hl hP hD hS => lv_icmp_le C.1 C.2.1 hd ht (fun h => kp h C hl hP hD hS) (fun h => kn h C hl hP hD hS)
-- switches
theorem fw_tin {dflt lo hi : Int} {offs : Array Int} {len : Nat} {x : Int32} {off : Int} {tgt : Nat} (hd : decode cc pc = .ok (.tableswitch dflt lo hi offs, len)) (h1 : ¬ x.toInt < lo) (h2 : ¬ hi < x.toInt) (ho : offs[(x.toInt - lo).toNat]? = some off) (ht : (pc : Int) + off = (tgt : Int)) (k : fw_R own cc nL rty sh d rt μ1 tgt lv st μ) : fw_R own cc nL rty sh d rt μ1 pc lv (.int x :: st) μ := fun _ _ _ _ _ _ _ _ _ _ _ _ _ _ _ _ C hl hP hD hS => lv_tableIn C.1 C.2.1 hd h1 h2 ho ht (k C hl hP hD hS)
theorem fw_tout {dflt lo hi : Int} {offs : Array Int} {len : Nat} {x : Int32} {tgt : Nat} (hd : decode cc pc = .ok (.tableswitch dflt lo hi offs, len)) (h : x.toInt < lo ∨ hi < x.toInt) (ht : (pc : Int) + dflt = (tgt : Int)) (k : fw_R own cc nL rty sh d rt μ1 tgt lv st μ) : fw_R own cc nL rty sh d rt μ1 pc lv (.int x :: st) μ := fun _ _ _ _ _ _ _ _ _ _ _ _ _ _ _ _ C hl hP hD hS => lv_tableOut C.1 C.2.1 hd h ht (k C hl hP hD hS)
theorem fw_lsw {dflt : Int} {ps : Array (Int × Int)} {len : Nat} {x : Int32} {off : Int} {tgt : Nat} (hd : decode cc pc = .ok (.lookupswitch dflt ps, len)) (hp : (ps.toList.zip (ps.toList.drop 1)).all (fun (a, next) => a.1 < next.1) = true) (ho : Op.lookupswitch.offset ps.toList dflt x.toInt = off) (ht : (pc : Int) + off = (tgt : Int)) (k : fw_R own cc nL rty sh d rt μ1 tgt lv st μ) : fw_R own cc nL rty sh d rt μ1 pc lv (.int x :: st) μ := fun _ _ _ _ _ _ _ _ _ _ _ _ _ _ _ _ C hl hP hD hS => lv_lookup C.1 C.2.1 hd hp ho ht (k C hl hP hD hS)
-- fields
def fw_FL (own : String) (index ci j : Nat) : Prop := ∃ (C : String) (T : u_T) (N : Nat), fw_cl[ci]? = some (C, T, N) ∧ (∀ w ∈ u_ws C T N, w ∈ fw_tb) ∧ j < N ∧ Cond.fieldLink own index (T j).1 (T j).2.1 (T j).2.2.1 ∈ fw_tb
theorem fw_getI {index ci j k : Nat} {fs : List (Option Nat)} (hd : decode cc pc = .ok (.getfield index, 3)) (hF : fw_FL own index ci j) (hs : sh[k]? = some (.inl (ci, fs))) (hf : fs[j]? = some none) (kk : fw_R own cc nL rty sh d rt μ1 (pc + 3) lv (.int (μ.1 k j) :: st) μ) : fw_R own cc nL rty sh d rt μ1 pc lv (.ref k :: st) μ := by
  obtain ⟨C0, T, N, hc, hin, hj, hw⟩ := hF
  exact fun ⦃p l e s m args below meth c D dA ad A H locs ls⦄ C hl hP hD hS => va_get (D := D) (ci := ci) (v := .int (μ.1 k j)) (fs := fs.mapIdx (fw_fe ad μ k)) C.1 C.2.1 C.2.2.2.2.1 hin C.2.2.2.1 C.2.2.2.2.2.2.2.1 hP k (fw_wget hs) hc j hj (C.2.2.2.2.1 _ hw) (fun _ h => h) (by rw [List.getElem?_mapIdx, hf]; rfl) hd (kk C hl hP hD hS)
theorem fw_getR {index ci j k r : Nat} {fs : List (Option Nat)} (hd : decode cc pc = .ok (.getfield index, 3)) (hF : fw_FL own index ci j) (hs : sh[k]? = some (.inl (ci, fs))) (hf : fs[j]? = some (some r)) (kk : fw_R own cc nL rty sh d rt μ1 (pc + 3) lv (.ref r :: st) μ) : fw_R own cc nL rty sh d rt μ1 pc lv (.ref k :: st) μ := by
  obtain ⟨C0, T, N, hc, hin, hj, hw⟩ := hF
  exact fun ⦃p l e s m args below meth c D dA ad A H locs ls⦄ C hl hP hD hS => va_get (D := D) (ci := ci) (v := .ref (ad r)) (fs := fs.mapIdx (fw_fe ad μ k)) C.1 C.2.1 C.2.2.2.2.1 hin C.2.2.2.1 C.2.2.2.2.2.2.2.1 hP k (fw_wget hs) hc j hj (C.2.2.2.2.1 _ hw) (fun _ h => h) (by rw [List.getElem?_mapIdx, hf]; rfl) hd (kk C hl hP hD hS)
def fw_FP (own : String) (index ci j : Nat) (ty : FieldType) : Prop := ∃ (C : String) (T : u_T) (N : Nat) (ty0 : Nat → FieldType), fw_cl[ci]? = some (C, T, N) ∧ (∀ w ∈ u_ws C T N, w ∈ fw_tb) ∧ j < N ∧ Cond.fieldLink own index (T j).1 (T j).2.1 (T j).2.2.1 ∈ fw_tb ∧ (∀ k, k < N → parseFieldDescriptor (T k).2.2.1 = some (ty0 k)) ∧ (∀ a, a < N → ∀ b, b < N → a ≠ b → (T a).2.1 ≠ (T b).2.1) ∧ (T j).2.2.2 = false ∧ parseFieldDescriptor (T j).2.2.1 = some ty
theorem fw_put0 {index ci j k : Nat} {v : Int32} {ty : FieldType} {fs : List (Option Nat)} (hn : narrow ty (.int v) = .int v) (hfit : fits ty (.int v) = true) (hd : decode cc pc = .ok (.putfield index, 3)) (hF : fw_FP own index ci j ty) (hs : sh[k]? = some (.inl (ci, fs))) (hf : fs[j]? = some none) (kk : fw_R own cc nL rty sh d rt μ1 (pc + 3) lv st (fw_wr μ k j v)) : fw_R own cc nL rty sh d rt μ1 pc lv (.int v :: .ref k :: st) μ := by
  obtain ⟨C0, T, N, ty0, hc, hin, hj, hw, h1, h2, h3, h4⟩ := hF
  have hlen : j < fs.length := (List.getElem?_eq_some_iff.mp hf).1
  intro p l e s m args below meth c D dA ad A H locs ls C hl hP hD hS
  have e0 : (fw_w sh ad dA μ).set k (ad k, .inr (ci, (fs.mapIdx (fw_fe ad μ k)).set j (.int v))) = fw_w sh ad dA (fw_wr μ k j v) := by
    have e1 : (Sum.inr (ci, (fs.mapIdx (fw_fe ad μ k)).set j (.int v)) : va_E) = fw_ce ad dA (fw_wr μ k j v) k (.inl (ci, fs)) := by
      show Sum.inr (ci, _) = Sum.inr (ci, _)
      congr 2
      apply List.ext_getElem?
      intro i
      rw [List.getElem?_set]
      simp only [List.length_mapIdx, List.getElem?_mapIdx]
      by_cases hi : j = i
      · subst hi
        rw [if_pos rfl, if_pos hlen, hf]
        simp [fw_fe, fw_wr, upd]
      · simp only [hi, if_false]
        cases fs[i]? with
        | none => rfl
        | some o => cases o <;> simp [fw_fe, fw_wr, upd, Ne.symm hi, show ¬ i = j from fun e => hi e.symm]
    rw [e1]
    exact fw_wset hs (fun a t ha => by rw [fw_wr_wc]; exact fw_ce_wc a t ha)
  exact va_put (D := D) (ci := ci) (v := .int v) (ty := ty) (fs := fs.mapIdx (fw_fe ad μ k)) C.1 C.2.1 C.2.2.2.2.1 hin ty0 h1 h2 C.2.2.2.1 C.2.2.2.2.2.2.2.1 hP hD hS k (fw_wget hs) hc j hj (C.2.2.2.2.1 _ hw) (fun _ h => h) h3 h4 hn hfit (by rw [List.length_mapIdx]; exact hlen) hd (fun H1 locs1 hP1 hD1 hS1 => kk C hl (by rw [← e0]; exact hP1) (by rw [← e0]; exact hD1) hS1)
theorem fw_putI {index ci j k : Nat} {v : Int32} {fs : List (Option Nat)} (hd : decode cc pc = .ok (.putfield index, 3)) (hF : fw_FP own index ci j .int) (hs : sh[k]? = some (.inl (ci, fs))) (hf : fs[j]? = some none) (kk : fw_R own cc nL rty sh d rt μ1 (pc + 3) lv st (fw_wr μ k j v)) : fw_R own cc nL rty sh d rt μ1 pc lv (.int v :: .ref k :: st) μ := fw_put0 rfl rfl hd hF hs hf kk
theorem fw_putZ {index ci j k : Nat} {v v2 : Int32} {fs : List (Option Nat)} (hd : decode cc pc = .ok (.putfield index, 3)) (hv : fw_bz v = some v2) (hF : fw_FP own index ci j .boolean) (hs : sh[k]? = some (.inl (ci, fs))) (hf : fs[j]? = some none) (kk : fw_R own cc nL rty sh d rt μ1 (pc + 3) lv st (fw_wr μ k j v2)) : fw_R own cc nL rty sh d rt μ1 pc lv (.int v :: .ref k :: st) μ := by
  unfold fw_bz at hv
  split at hv
  · rename_i h0
    cases hv
    rcases h0 with rfl | rfl
    · exact fw_put0 rfl rfl hd hF hs hf kk
    · exact fw_put0 rfl rfl hd hF hs hf kk
  · cases hv
-- arrays
theorem fw_iald {k n : Nat} {rs : List Nat} {i v : Int32} (hd : decode cc pc = .ok (.iaload, 1)) (hs : sh[k]? = some (.inr (0, n, rs))) (hv : fw_rd n (μ.1 k) i = some v) (kk : fw_R own cc nL rty sh d rt μ1 (pc + 1) lv (.int v :: st) μ) : fw_R own cc nL rty sh d rt μ1 pc lv (.int i :: .ref k :: st) μ := by
  unfold fw_rd at hv
  split at hv
  · cases hv
  · rename_i h0; cases hv
    exact fun ⦃p l e s m args below meth c D dA ad A H locs ls⦄ C hl hP hD hS => va_iald (cA := dA 0) C.1 C.2.1 C.2.2.2.2.2.2.2.1 hP k 0 (fw_wget hs) rfl h0 hd (kk C hl hP hD hS)
theorem fw_zald {k n : Nat} {rs : List Nat} {i v : Int32} (hd : decode cc pc = .ok (.baload, 1)) (hs : sh[k]? = some (.inr (1, n, rs))) (hv : fw_rd n (μ.1 k) i = some v) (kk : fw_R own cc nL rty sh d rt μ1 (pc + 1) lv (.int v :: st) μ) : fw_R own cc nL rty sh d rt μ1 pc lv (.int i :: .ref k :: st) μ := by
  unfold fw_rd at hv
  split at hv
  · cases hv
  · rename_i h0; cases hv
    exact fun ⦃p l e s m args below meth c D dA ad A H locs ls⦄ C hl hP hD hS => va_zald (cA := dA 1) C.1 C.2.1 C.2.2.2.2.2.2.2.1 hP k 1 (fw_wget hs) rfl h0 hd (kk C hl hP hD hS)
theorem fw_lald {k n : Nat} {rs : List Nat} {i : Int32} {v : Int64} (hd : decode cc pc = .ok (.laload, 1)) (hs : sh[k]? = some (.inr (2, n, rs))) (hv : fw_rl n (μ.2 k) i = some v) (kk : fw_R own cc nL rty sh d rt μ1 (pc + 1) lv (.long v :: st) μ) : fw_R own cc nL rty sh d rt μ1 pc lv (.int i :: .ref k :: st) μ := by
  unfold fw_rl at hv
  split at hv
  · cases hv
  · rename_i h0; cases hv
    exact fun ⦃p l e s m args below meth c D dA ad A H locs ls⦄ C hl hP hD hS => va_lald (cA := dA 2) C.1 C.2.1 C.2.2.2.2.2.2.2.1 hP k 2 (fw_wget hs) rfl h0 hd (kk C hl hP hD hS)
theorem fw_aald {k n r : Nat} {rs : List Nat} {i : Int32} (kd : Nat) {C0 : String} (hd : decode cc pc = .ok (.aaload, 1)) (hk : ∀ dA : Nat → ClassId, (fw_ty dA)[kd + 3]? = some (dA (kd + 3), .object C0)) (hs : sh[k]? = some (.inr (kd + 3, n, rs))) (hv : fw_rq n rs i = some r) (kk : fw_R own cc nL rty sh d rt μ1 (pc + 1) lv (.ref r :: st) μ) : fw_R own cc nL rty sh d rt μ1 pc lv (.int i :: .ref k :: st) μ := by
  unfold fw_rq at hv
  split at hv
  · cases hv
  · rename_i h0
    intro p l e s m args below meth c D dA ad A H locs ls C hl hP hD hS
    refine va_aldq (cA := dA (kd + 3)) (f := fun i => (rs[i]?).map ad) C.1 C.2.1 C.2.2.2.2.2.2.2.1 hP k (kd + 3) (fw_wget hs) (hk dA) h0 hd ?_
    show W _ _ _ _ _ _ _ _ _ _ _ _ _ _ _ (F0 m (pc + 1) ls (va_rf ((rs[i.toNatClampNeg]?).map ad) :: _))
    rw [hv]
    exact kk C hl hP hD hS
theorem fw_alen {k kd n : Nat} {rs : List Nat} (hd : decode cc pc = .ok (.arraylength, 1)) (hs : sh[k]? = some (.inr (kd, n, rs))) {ty : Nat → FieldType} (hk : ∀ dA : Nat → ClassId, (fw_ty dA)[kd]? = some (dA kd, ty kd)) (kk : fw_R own cc nL rty sh d rt μ1 (pc + 1) lv (.int (nI n) :: st) μ) : fw_R own cc nL rty sh d rt μ1 pc lv (.ref k :: st) μ :=
  fun ⦃p l e s m args below meth c D dA ad A H locs ls⦄ C hl hP hD hS => va_alen (cA := dA kd) C.1 C.2.1 C.2.2.2.2.2.2.2.1 hP k kd (fw_wget hs) (hk dA) (by simp only [fw_ar]; split <;> rfl) hd (kk C hl hP hD hS)
theorem fw_iast {k n : Nat} {rs : List Nat} {i v : Int32} {μ2 : fw_M} (hd : decode cc pc = .ok (.iastore, 1)) (hs : sh[k]? = some (.inr (0, n, rs))) (hv : fw_si n μ k i v = some μ2) (kk : fw_R own cc nL rty sh d rt μ1 (pc + 1) lv st μ2) : fw_R own cc nL rty sh d rt μ1 pc lv (.int v :: .int i :: .ref k :: st) μ := by
  unfold fw_si at hv
  split at hv
  · cases hv
  · rename_i h0; cases hv
    intro p l e s m args below meth c D dA ad A H locs ls C hl hP hD hS
    have e0 : (fw_w sh ad dA μ).set k (ad k, .inl (dA 0, n, .inl (upd (μ.1 k) i.toNatClampNeg v))) = fw_w sh ad dA (fw_wr μ k i.toNatClampNeg v) := by
      have e1 : (Sum.inl (dA 0, n, .inl (upd (μ.1 k) i.toNatClampNeg v)) : va_E) = fw_ce ad dA (fw_wr μ k i.toNatClampNeg v) k (.inr (0, n, rs)) := by
        simp [fw_ce, fw_ar, fw_wr]
      rw [e1]
      exact fw_wset hs (fun a t ha => by rw [fw_wr_wc]; exact fw_ce_wc a t ha)
    exact va_iast (cA := dA 0) C.1 C.2.1 C.2.2.2.2.2.2.2.1 hP hD hS k 0 (fw_wget hs) rfl h0 hd (fun H1 locs1 hP1 hD1 hS1 => kk C hl (by rw [← e0]; exact hP1) (by rw [← e0]; exact hD1) hS1)
theorem fw_zast {k n : Nat} {rs : List Nat} {i v : Int32} {μ2 : fw_M} (hd : decode cc pc = .ok (.bastore, 1)) (hs : sh[k]? = some (.inr (1, n, rs))) (hv : fw_sz n μ k i v = some μ2) (kk : fw_R own cc nL rty sh d rt μ1 (pc + 1) lv st μ2) : fw_R own cc nL rty sh d rt μ1 pc lv (.int v :: .int i :: .ref k :: st) μ := by
  unfold fw_sz at hv
  split at hv
  · cases hv
  · rename_i h0
    split at hv
    · rename_i hz; cases hv
      intro p l e s m args below meth c D dA ad A H locs ls C hl hP hD hS
      have hnar : vp_nar .boolean v = v := by rcases hz with rfl | rfl <;> rfl
      have e0 : (fw_w sh ad dA μ).set k (ad k, .inl (dA 1, n, .inl (upd (μ.1 k) i.toNatClampNeg (vp_nar .boolean v)))) = fw_w sh ad dA (fw_wr μ k i.toNatClampNeg v) := by
        rw [hnar]
        have e1 : (Sum.inl (dA 1, n, .inl (upd (μ.1 k) i.toNatClampNeg v)) : va_E) = fw_ce ad dA (fw_wr μ k i.toNatClampNeg v) k (.inr (1, n, rs)) := by
          simp [fw_ce, fw_ar, fw_wr]
        rw [e1]
        exact fw_wset hs (fun a t ha => by rw [fw_wr_wc]; exact fw_ce_wc a t ha)
      exact va_zast (cA := dA 1) C.1 C.2.1 C.2.2.2.2.2.2.2.1 hP hD hS k 1 (fw_wget hs) rfl h0 hd (fun H1 locs1 hP1 hD1 hS1 => kk C hl (by rw [← e0]; exact hP1) (by rw [← e0]; exact hD1) hS1)
    · cases hv
theorem fw_last {k n : Nat} {rs : List Nat} {i : Int32} {v : Int64} {μ2 : fw_M} (hd : decode cc pc = .ok (.lastore, 1)) (hs : sh[k]? = some (.inr (2, n, rs))) (hv : fw_sl n μ k i v = some μ2) (kk : fw_R own cc nL rty sh d rt μ1 (pc + 1) lv st μ2) : fw_R own cc nL rty sh d rt μ1 pc lv (.long v :: .int i :: .ref k :: st) μ := by
  unfold fw_sl at hv
  split at hv
  · cases hv
  · rename_i h0; cases hv
    intro p l e s m args below meth c D dA ad A H locs ls C hl hP hD hS
    have e0 : (fw_w sh ad dA μ).set k (ad k, .inl (dA 2, n, .inr (.inl (vp_updL (μ.2 k) i.toNatClampNeg v)))) = fw_w sh ad dA (fw_wl μ k i.toNatClampNeg v) := by
      have e1 : (Sum.inl (dA 2, n, .inr (.inl (vp_updL (μ.2 k) i.toNatClampNeg v))) : va_E) = fw_ce ad dA (fw_wl μ k i.toNatClampNeg v) k (.inr (2, n, rs)) := by
        simp [fw_ce, fw_ar, fw_wl]
      rw [e1]
      exact fw_wset hs (fun a t ha => by rw [fw_wl_wd]; exact fw_ce_wd a t ha)
    exact va_last (cA := dA 2) C.1 C.2.1 C.2.2.2.2.2.2.2.1 hP hD hS k 2 (fw_wget hs) rfl h0 hd (fun H1 locs1 hP1 hD1 hS1 => kk C hl (by rw [← e0]; exact hP1) (by rw [← e0]; exact hD1) hS1)
end FWR
