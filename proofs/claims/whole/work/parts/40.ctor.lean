
/-! CONSTRUCTORS: worlds that grow -/
def fw_s3 (j : Nat) : Int32 := match j with | 0 => 0 | 1 => 0 | _ => 4
def fw_ncl : List (String × Nat × MethodName) := [("FewTypes$Shop", 11, ⟨"FewTypes$Case", "<init>", "()V"⟩), ("FewTypes$Shop", 20, ⟨"FewTypes$Line", "<init>", "()V"⟩), ("FewTypes$Shop", 45, ⟨"FewTypes$Jobs", "<init>", "()V"⟩), ("FewTypes", 25, ⟨"FewTypes$Tape", "<init>", "()V"⟩), ("FewTypes", 32, ⟨"FewTypes$Press", "<init>", "()V"⟩), ("FewTypes", 39, ⟨"FewTypes$Orders", "<init>", "()V"⟩), ("FewTypes", 46, ⟨"FewTypes$Line", "<init>", "()V"⟩), ("FewTypes", 53, ⟨"FewTypes$Case", "<init>", "()V"⟩), ("FewTypes", 77, ⟨"FewTypes$Sheet", "<init>", "()V"⟩)]
def fw_Nc (U : State) : Prop := ∀ q ∈ fw_ncl, va_Nw (.methodLinkNest q.1 q.2.1 q.2.2 "FewTypes") U
def fw_CX (ad : Nat → Nat) (A : Nat → Prop) (U : State) : Prop := fw_St ad A U U.heap ∧ fw_Ne U ∧ fw_Nc U ∧ va_AO "FewTypes$Line" U ∧ va_AO "FewTypes$Sheet" U ∧ va_Z "FewTypes" "RULE_FIRST" "[I" (.ref (ad 1003)) A U U.heap ∧ va_T .int (ad 1003) 3 (fun j => .int (fw_s3 j)) A U U.heap ∧ va_Nw (.fieldLinkNest "FewTypes$Shop" 56 "FewTypes" "RULE_FIRST" "[I" "FewTypes") U
theorem fw_CX.go {ad : Nat → Nat} {A : Nat → Prop} {s U : State} {H : Heap} {locs : List Loc} (h : fw_CX ad A s) (hS : va_S A s.heap H locs) (hU : U.heap = H) (hW : s.WarmedH U.vm) : fw_CX ad A U := by
  obtain ⟨h1, h2, h3, h4, h5, h6, h7, h10⟩ := h
  refine ⟨?_, fw_Ne.warm hW h2, fun q hq => va_Nw.warmM hW (h3 q hq), h4.moved hW.alike, h5.moved hW.alike, ?_, ?_, va_Nw.warmF hW h10⟩
  · rw [hU]; exact (h1.kept hS.2.1).moved hW.alike
  · rw [hU]; exact (h6.kept hS.2.1).moved hW.alike
  · rw [hU]; exact (h7.kept hS.2.1).moved hW.alike
theorem fw_CX.calling {ad : Nat → Nat} {A : Nat → Prop} {U : State} {g : JFrame} {mk : MethodId} {a : Array Value} (h : fw_CX ad A U) : fw_CX ad A (U.calling g mk a) := by
  obtain ⟨h1, h2, h3, h4, h5, h6, h7, h10⟩ := h
  have hvm : U.vm.Alike (U.calling g mk a).vm := Vm.Alike.refl U.vm
  exact ⟨h1.moved hvm, fw_Ne.same rfl h2, fun q hq => va_Nw.same rfl rfl (h3 q hq), h4.moved hvm, h5.moved hvm, h6.moved hvm, h7.moved hvm, va_Nw.same rfl rfl h10⟩
def fw_KP (D : va_G) (dA : Nat → ClassId) (ad : Nat → Nat) (A : Nat → Prop) (ws : va_W) (U : State) : Prop := (∀ q, U.heap.size ≤ q → A q) ∧ va_P D fw_cl ws U.heap ∧ va_K D fw_cl (fw_ty dA) U ∧ va_D A ws ∧ fw_CX ad A U
def fw_KQ (D : va_G) (dA : Nat → ClassId) (A : Nat → Prop) (ws : va_W) (t : State) : Prop := va_P D fw_cl ws t.heap ∧ va_K D fw_cl (fw_ty dA) t ∧ va_D A ws
theorem fw_KP.blind {D : va_G} {dA : Nat → ClassId} {ad : Nat → Nat} {A : Nat → Prop} {ws : va_W} {av : List Value} : FrameBlind (va_Pc av (fw_KP D dA ad A ws)) := by
  intro a U g mk q
  obtain ⟨q0, q1, qP, qK, qD, qC⟩ := q
  exact ⟨q0, q1, qP, va_K.moved (u := U) (U := U.calling g mk a) (Vm.Alike.refl U.vm) qK, qD, qC.calling⟩
theorem fw_KP.enter {D : va_G} {dA : Nat → ClassId} {ad : Nat → Nat} {A A1 : Nat → Prop} {ws : va_W} {av : List Value} {s : State} {H : Heap} {locs : List Loc} (hA : ∀ q, H.size ≤ q → A1 q) (hA1 : ∀ q, A1 q → A q) (hP : va_P D fw_cl ws H) (hK : va_K D fw_cl (fw_ty dA) s) (hD : va_D A1 ws) (hS : va_S A s.heap H locs) (hC : fw_CX ad A s) : ∀ U : State, U.heap = H → s.WarmedH U.vm → va_Pc av (fw_KP D dA ad A1 ws) av.toArray U := by
  intro U hU hW
  have hC1 := hC.go hS hU hW
  obtain ⟨h1, h2, h3, h4, h5, h6, h7, h10⟩ := hC1
  refine ⟨rfl, fun q hq => hA q (by rw [hU] at hq; exact hq), by rw [hU]; exact hP, va_K.moved hW.alike hK, hD, ?_, h2, h3, h4, h5, h6.narrow hA1, h7.narrow hA1, h10⟩
  obtain ⟨g1, g2, g3, g4, g5, g6⟩ := h1
  exact ⟨g1.narrow hA1, g2.narrow hA1, g3.narrow hA1, g4.narrow hA1, g5.narrow hA1, g6.narrow hA1⟩
theorem fw_cA0 {D : va_G} {dA : Nat → ClassId} {cA : ClassId} {s : State} (h : va_K D fw_cl (fw_ty dA ++ [(cA, .int)]) s) : cA = dA 0 := by
  have h1 : s.vm.findClass ("[" ++ FieldType.int.toString) = some cA := (h.2 5 (cA, .int) rfl).2
  have h2 : s.vm.findClass ("[" ++ FieldType.int.toString) = some (dA 0) := (h.2 0 (dA 0, .int) rfl).2
  exact Option.some.inj (h1.symm.trans h2)
theorem fw_cA1 {D : va_G} {dA : Nat → ClassId} {cA : ClassId} {s : State} (h : va_K D fw_cl (fw_ty dA ++ [(cA, .boolean)]) s) : cA = dA 1 := by
  have h1 : s.vm.findClass ("[" ++ FieldType.boolean.toString) = some cA := (h.2 5 (cA, .boolean) rfl).2
  have h2 : s.vm.findClass ("[" ++ FieldType.boolean.toString) = some (dA 1) := (h.2 1 (dA 1, .boolean) rfl).2
  exact Option.some.inj (h1.symm.trans h2)
theorem fw_cA2 {D : va_G} {dA : Nat → ClassId} {cA : ClassId} {s : State} (h : va_K D fw_cl (fw_ty dA ++ [(cA, .long)]) s) : cA = dA 2 := by
  have h1 : s.vm.findClass ("[" ++ FieldType.long.toString) = some cA := (h.2 5 (cA, .long) rfl).2
  have h2 : s.vm.findClass ("[" ++ FieldType.long.toString) = some (dA 2) := (h.2 2 (dA 2, .long) rfl).2
  exact Option.some.inj (h1.symm.trans h2)
theorem fw_cA3 {D : va_G} {dA : Nat → ClassId} {cA : ClassId} {s : State} (h : va_K D fw_cl (fw_ty dA ++ [(cA, .object "FewTypes$Line")]) s) : cA = dA 3 := by
  obtain ⟨_, _, _, _, _, h1⟩ := (h.2 5 (cA, .object "FewTypes$Line") rfl).2
  obtain ⟨_, _, _, _, _, h2⟩ := (h.2 3 (dA 3, .object "FewTypes$Line") rfl).2
  exact Option.some.inj (h1.symm.trans h2)
theorem fw_cA4 {D : va_G} {dA : Nat → ClassId} {cA : ClassId} {s : State} (h : va_K D fw_cl (fw_ty dA ++ [(cA, .object "FewTypes$Sheet")]) s) : cA = dA 4 := by
  obtain ⟨_, _, _, _, _, h1⟩ := (h.2 5 (cA, .object "FewTypes$Sheet") rfl).2
  obtain ⟨_, _, _, _, _, h2⟩ := (h.2 4 (dA 4, .object "FewTypes$Sheet") rfl).2
  exact Option.some.inj (h1.symm.trans h2)
def fw_W1 : List fw_K := [.inr (0, 12, [])]
def fw_adW (ad : Nat → Nat) (a : Nat) : Nat → Nat := fun k => if k = 0 then a else ad k
def fw_m0 : fw_M := (fun _ _ => 0, fun _ _ => 0)
def fw_w2 (j : Nat) : Int32 := if j < 12 then 2 else 0
def f_Arrays_fill_W_L5 (k0 : Nat) (n0 : Nat) (a1 : Int32) (v4 : Int32) : Int32 × fw_M → Option ((Int32 × fw_M) ⊕ (fw_M))
  | (x2_5, μ5) =>
  if v4 ≤ x2_5 then
    some (.inr μ5)
  else
    (fw_si n0 μ5 k0 x2_5 a1).bind fun μ13 =>
    fw_nm (x2_5 + 1) fun (v14 : Int32) =>
    some (.inl (v14, μ13))
def f_Arrays_fill_W (k0 : Nat) (n0 : Nat) (a1 : Int32) (μ : fw_M) : Option (fw_M) :=
  if fw_W1[k0]? = some (.inr (0, n0, [])) then
    fw_nm ((nI n0)) fun (v4 : Int32) =>
    (fw_wh (f_Arrays_fill_W_L5 k0 n0 a1 v4) fw_N (0, μ)).bind fun (e5x : fw_M) =>
    some e5x
  else none
set_option maxHeartbeats 4000000 in
set_option maxRecDepth 100000 in
theorem c_Arrays_fill_W {k0 : Nat} {n0 : Nat} {a1 : Int32} {μ : fw_M} {r : fw_M} (h : f_Arrays_fill_W k0 n0 a1 μ = some r) : fw_Con Y_Arrays_fill fw_W1 1 [.ref k0, .int a1] none μ r := by
  refine fw_con (by decide) (Nat.le_of_ble_eq_true rfl) ?_
  rw [f_Arrays_fill_W] at h
  show fw_R "java/util/Arrays" prog_15_method_103_code 4 none fw_W1 1 none r 0 [(0, .ref k0), (1, .int a1)] [] μ
  obtain ⟨g0, h⟩ := fw_gu h
  refine fw_iconst (pc := 0) d_Arrays_fill_0 fw_ic0 ?_
  refine fw_istore_n (pc := 1) (lv1 := [(2, .int 0), (0, .ref k0), (1, .int a1)]) d_Arrays_fill_1 rfl (by decide) rfl ?_
  refine fw_aload_n (pc := 2) d_Arrays_fill_2 1 rfl rfl ?_
  refine fw_alen (pc := 3) d_Arrays_fill_3 g0 (ty := fun _ => .int) (fun _ => rfl) ?_
  obtain ⟨v4, e4, h⟩ := fw_ne h
  refine fw_top e4 ?_
  refine fw_istore_n (pc := 4) (lv1 := [(3, .int v4), (2, .int 0), (0, .ref k0), (1, .int a1)]) d_Arrays_fill_4 rfl (by decide) rfl ?_
  obtain ⟨e5x, w5, h⟩ := fw_be h
  have hE5 : fw_R "java/util/Arrays" prog_15_method_103_code 4 none fw_W1 1 none r 20 [] [] e5x := by
    obtain rfl := Option.some.inj h
    exact fw_vret (pc := 20) d_Arrays_fill_20 rfl
  clear h
  exact fw_sub [2, 3, 1, 0] rfl (fw_we (e := e5x) (fun (s : Int32 × fw_M) => fw_R "java/util/Arrays" prog_15_method_103_code 4 none fw_W1 1 none r 5 [(0, .ref k0), (1, .int a1), (2, .int s.1), (3, .int v4)] [] s.2) (by
    intro s x h hl hr
    obtain ⟨x2_5, μ5⟩ := s
    rw [f_Arrays_fill_W_L5] at h
    show fw_R "java/util/Arrays" prog_15_method_103_code 4 none fw_W1 1 none r 5 [(0, .ref k0), (1, .int a1), (2, .int x2_5), (3, .int v4)] [] μ5
    refine fw_iload_n (pc := 5) d_Arrays_fill_5 2 rfl rfl ?_
    refine fw_iload_n (pc := 6) d_Arrays_fill_6 3 rfl rfl ?_
    refine fw_icmp_ge (pc := 7) (tgt := 20) d_Arrays_fill_7 rfl (fun hc => ?_) (fun hc => ?_)
    · have h := fw_it hc h
      obtain rfl := Option.some.inj h
      have he := hr _ rfl
      subst he
      exact fw_sub [] rfl hE5
    · have h := fw_if hc h
      refine fw_aload_n (pc := 10) d_Arrays_fill_10 0 rfl rfl ?_
      refine fw_iload_n (pc := 11) d_Arrays_fill_11 2 rfl rfl ?_
      refine fw_iload_n (pc := 12) d_Arrays_fill_12 1 rfl rfl ?_
      obtain ⟨μ13, e13, h⟩ := fw_be h
      refine fw_iast (pc := 13) d_Arrays_fill_13 g0 e13 ?_
      obtain ⟨v14, e14, h⟩ := fw_ne h
      refine fw_iinc2 (pc := 14) (j := 2) (lv1 := [(2, .int v14), (0, .ref k0), (1, .int a1), (3, .int v4)]) d_Arrays_fill_14 rfl fw_ic1 e14 (by decide) rfl ?_
      refine fw_goto (pc := 17) (tgt := 5) d_Arrays_fill_17 rfl ?_
      obtain rfl := Option.some.inj h
      exact fw_sub [1, 2, 0, 3] rfl (hl _ rfl)
    ) _ _ w5)
theorem fw_fillL : ∀ (n i : Nat) (μ : fw_M), i + n = 12 → μ.1 0 = (fun j => if j < i then 2 else 0) → ∃ u : fw_M, fw_wh (f_Arrays_fill_W_L5 0 12 2 (nI 12)) (n + 1) (nI i, μ) = some u ∧ u.1 0 = fw_w2 := by
  intro n
  induction n with
  | zero =>
    intro i μ hi hμ
    have hi : i = 12 := by omega
    subst hi
    refine ⟨μ, ?_, ?_⟩
    · rw [fw_wh, f_Arrays_fill_W_L5, if_pos (by decide)]
    · rw [hμ]; rfl
  | succ n ih =>
    intro i μ hi hμ
    obtain ⟨u, h1, h2⟩ := ih (i + 1) (fw_wr μ 0 i 2) (by omega) (by
      funext j
      simp only [fw_wr, if_true, upd, hμ]
      by_cases h : j = i
      · subst h; simp
      · have : (j < i + 1) = (j < i) := by apply propext; omega
        simp [h, this])
    refine ⟨u, ?_, h2⟩
    have hlt : i < 12 := by omega
    rw [fw_wh, f_Arrays_fill_W_L5, if_neg (nI_ge hlt (by decide))]
    have hb : fw_si 12 μ 0 (nI i) 2 = some (fw_wr μ 0 i 2) := by
      unfold fw_si
      rw [if_neg (nI_in hlt (by decide)), nI_clamp (by omega)]
    rw [hb]
    simp only [Option.bind_some, fw_nm]
    rw [nI_1]
    exact h1
theorem fw_wh_le {S E : Type} {body : S → Option (S ⊕ E)} {e : E} : ∀ {n m : Nat} {s : S}, n ≤ m → fw_wh body n s = some e → fw_wh body m s = some e := by
  intro n
  induction n with
  | zero => intro m s _ h; cases h
  | succ n ih =>
    intro m s hm h
    cases m with
    | zero => omega
    | succ m =>
      rw [fw_wh] at h ⊢
      cases hb : body s with
      | none => rw [hb] at h; cases h
      | some x =>
        rw [hb] at h
        cases x with
        | inl s1 => exact ih (by omega) h
        | inr e1 => exact h
theorem fw_fillW : ∃ u : fw_M, f_Arrays_fill_W 0 12 2 fw_m0 = some u ∧ u.1 0 = fw_w2 := by
  obtain ⟨u, h1, h2⟩ := fw_fillL 12 0 fw_m0 rfl (by funext j; simp [fw_m0])
  refine ⟨u, ?_, h2⟩
  have h3 := fw_wh_le (m := fw_N) (by decide) h1
  rw [f_Arrays_fill_W, if_pos (by decide)]
  have e0 : nI 0 = 0 := rfl
  rw [e0] at h3
  simp only [fw_nm]
  rw [h3]
  rfl
theorem fw_enterW {D : va_G} {dA : Nat → ClassId} {ad : Nat → Nat} {A A1 : Nat → Prop} {a : Nat} {s : State} {H : Heap} {locs : List Loc} (hP : va_P D fw_cl [(a, .inl (dA 0, 12, .inl (fun _ => 0)))] H) (hK : va_K D fw_cl (fw_ty dA) s) (hD : va_D A1 [(a, .inl (dA 0, 12, .inl (fun _ => 0)))]) (hS : va_S A s.heap H locs) (hC : fw_CX ad A s) (hA : ∀ q, H.size ≤ q → A1 q) (hA1 : ∀ q, A1 q → A q) : ∀ U : State, U.heap = H → s.WarmedH U.vm → va_Pc (([.ref 0, .int 2] : List Value).map (fw_v (fw_adW ad a))) (fw_Pre fw_W1 D dA (fw_adW ad a) A1 fw_m0) ([.ref a, .int 2] : List Value).toArray U := by
  intro U hU hW
  obtain ⟨h1, h2, h3, h4, h5, h6, h7, h10⟩ := hC.go hS hU hW
  obtain ⟨g1, g2, g3, g4, g5, g6⟩ := h1
  exact ⟨rfl, fun q hq => hA q (by rw [hU] at hq; exact hq), by rw [hU]; exact hP, va_K.moved hW.alike hK, hD, ⟨g1.narrow hA1, g2.narrow hA1, g3.narrow hA1, g4.narrow hA1, g5.narrow hA1, g6.narrow hA1⟩, h2⟩
section FWT
variable {p : Program} {l : Launch} {e : Env} {R : Room} {s : State} {m : MethodId} {args : Array Value} {below : List Frame} {meth : Method} {c : Code} {H : Heap} {locs : List Loc} {cells slots : Nat} {Q : State → Prop} {cc : ByteArray} {pc : Nat} {ls : Array Slot} {D : va_G} {A : Nat → Prop} {a : Nat} {ws : va_W} {dA : Nat → ClassId}
/-- three ints of a static row come into a row of three: the library's step of arraycopy, its source told by va_T -/
theorem fw_copyT (hx : p.tables.exec = Jvm.exec) (hb : c.code = cc) (hml : c.maxLocals = ls.size) {own : String} {index : Nat} (hown : s.vm.findClass own = some m.cls) (hlink : (Cond.methodLink own index arraycopyName).before args s = true) (hnat : (Cond.native arraycopyName).before args s = true) (hstat : (Cond.static arraycopyName).before args s = true) (hini : (Cond.initialized "java/lang/System").before args s = true)
    (hK : va_K D fw_cl (fw_ty dA) s) (hP : va_P D fw_cl ws H) (hD : va_D A ws) (hS : va_S A s.heap H locs) {b0 : Nat} {f g : Nat → Int32} (hT : va_T .int b0 3 (fun j => .int (f j)) A s s.heap) (q1 : Nat) (ha1 : ws[q1]? = some (a, .inl (dA 0, 3, .inl g)))
    (hfr : 1 ≤ R.frames) (hlo : nativeFrameWords "java/lang/System" "arraycopy" 5 + 11 ≤ R.locals) (hdg : decode cc pc = .ok (.invokestatic index, 3))
    (kk : ∀ (H1 : Heap) (locs1 : List Loc), va_P D fw_cl (ws.set q1 (a, .inl (dA 0, 3, .inl (va_cpy f g 0 0 3)))) H1 → va_D A (ws.set q1 (a, .inl (dA 0, 3, .inl (va_cpy f g 0 0 3)))) → va_S A s.heap H1 locs1 → W p l e R s m args below meth c H1 locs1 cells slots Q (F0 m (pc + 3) ls [])) : W p l e R s m args below meth c H locs cells slots Q (F0 m pc ls [.int 3, .int 0, .ref a, .int 0, .ref b0]) := by
  intro T hTH X
  obtain ⟨scr, t1, t2, t3, t4, -, t5, t6⟩ := hT
  have hsrc : H[b0]? = some scr := (hS.2.1 b0 (Array.getElem?_eq_some_iff.mp t1).1 t6).trans t1
  have hdst : H[a]? = some (vp_cell (dA 0) (3, .inl g)) := hP q1 _ ha1
  have hlt : a < H.size := (Array.getElem?_eq_some_iff.mp hdst).1
  have hAa : A a := hD.2 q1 _ ha1
  obtain ⟨u1, k0, hk0, m0, hm0⟩ := t2
  obtain ⟨-, k1, hk1, m1, hm1⟩ := (hK.2 0 _ rfl).1 3 (fun j => .int (g j))
  have c3 : (3 : Int32).toNatClampNeg = 3 := by decide
  have c0 : (0 : Int32).toNatClampNeg = 0 := by decide
  have get : ∀ i : Nat, i < 3 → scr.slots.getD (0 + i) .null = .int (f (0 + i)) := by
    intro i hi
    rw [Array.getD_eq_getD_getElem?, t5 _ (by omega)]
    rfl
  obtain ⟨vm1, X1, go⟩ := X.arraycopy hx hown hlink hnat hstat hini (src := b0) (dst := a) (cs := scr) (cd := vp_cell (dA 0) (3, .inl g)) (srcPos := 0) (destPos := 0) (n := 3) (by rw [hTH]; exact hsrc) (by rw [hTH]; exact hdst)
    u1 (fun _ h => by cases h) t3 (fun h => by cases h) hk0 hk1 hm0 hm1 (by simp [refKind]) (by decide) (by decide) (by decide)
    (by have z0 : (0 : Int32).toInt = 0 := by decide
        have z3 : (3 : Int32).toInt = 3 := by decide
        rw [z0, z3]; omega)
    (by have z0 : (0 : Int32).toInt = 0 := by decide
        have z3 : (3 : Int32).toInt = 3 := by decide
        rw [z0, z3]
        show ¬ _ > ((arrV (dA 0) 3 (fun j => .int (g j))).slots.size : Int)
        rw [arrV_size]; omega)
    (fun _ _ i hi => by
      rw [c3] at hi
      rw [c0, get i hi]
      exact ⟨rfl, trivial⟩)
    (g := F0 m pc ls [.int 3, .int 0, .ref a, .int 0, .ref b0]) rfl (by rw [hml]) (rest := []) rfl (by rw [hb]; exact hdg) hfr (by show 2 * 0 + 0 + _ ≤ _; omega)
  have e1 : copied scr (vp_cell (dA 0) (3, .inl g)) 0 0 3 = vp_cell (dA 0) (3, .inl (va_cpy f g 0 0 3)) := va_copiedX (fun z => .int z) scr (dA 0) f g t5 (by decide)
  rw [e1] at X1 go
  have oq : ∀ q : Nat, q ≠ a → (H.setIfInBounds a (vp_cell (dA 0) (3, .inl (va_cpy f g 0 0 3))))[q]? = H[q]? := fun q hq => by simp [Array.getElem?_setIfInBounds, Ne.symm hq]
  have hself : (H.setIfInBounds a (vp_cell (dA 0) (3, .inl (va_cpy f g 0 0 3))))[a]? = some (vp_cell (dA 0) (3, .inl (va_cpy f g 0 0 3))) := by simp [Array.getElem?_setIfInBounds, hlt]
  have hS1 : ∀ L : List Loc, (∀ q ∈ L, q.base = a) → va_S A s.heap (H.setIfInBounds a (vp_cell (dA 0) (3, .inl (va_cpy f g 0 0 3)))) (locs ++ L) := by
    intro L hL
    refine ⟨by simp; exact hS.1, fun q g1 g2 => ?_, fun q hq => ?_⟩
    · rw [oq q (fun h => g2 (by rw [h]; exact hAa))]
      exact hS.2.1 q g1 g2
    · rcases List.mem_append.mp hq with h | h
      · exact hS.2.2 q h
      · rw [hL q h]; exact hAa
  obtain ⟨t, w1, w2⟩ := kk _ _ (hP.set hD ha1 hself oq) (hD.set ha1) (hS1 _ (by
    intro q hq
    obtain ⟨z, -, hz⟩ := List.mem_map.mp hq
    rw [← hz])) _ (by rw [← hTH]; rfl) X1
  exact ⟨t, go t w1, w2⟩
end FWT
theorem fw_oi1 : Cond.instanceMethod objectInit ∈ fw_tb := fw_m 79 (by decide +kernel) (by decide +kernel)
theorem fw_oi2 : Cond.code objectInit ⟨#[0xb1]⟩ 1 none ∈ fw_tb := fw_m 80 (by decide +kernel) (by decide +kernel)
theorem fw_ari : Cond.arrayClass .int ∈ fw_tb := fw_m 113 (by decide +kernel) (by decide +kernel)
theorem fw_arz : Cond.arrayClass .boolean ∈ fw_tb := fw_m 965 (by decide +kernel) (by decide +kernel)
theorem fw_arj : Cond.arrayClass .long ∈ fw_tb := fw_m 260 (by decide +kernel) (by decide +kernel)

theorem d_Line_init_0 : decode prog_4_method_1_code 0 = .ok (.aload_n 0, 1) := by decide +kernel
theorem d_Line_init_1 : decode prog_4_method_1_code 1 = .ok (.invokespecial 3, 3) := by decide +kernel
theorem d_Line_init_4 : decode prog_4_method_1_code 4 = .ok (.aload_n 0, 1) := by decide +kernel
theorem d_Line_init_5 : decode prog_4_method_1_code 5 = .ok (.bipush 10, 2) := by decide +kernel
theorem d_Line_init_7 : decode prog_4_method_1_code 7 = .ok (.newarray .int, 2) := by decide +kernel
theorem d_Line_init_9 : decode prog_4_method_1_code 9 = .ok (.putfield 9, 3) := by decide +kernel
theorem d_Line_init_12 : decode prog_4_method_1_code 12 = .ok (.aload_n 0, 1) := by decide +kernel
theorem d_Line_init_13 : decode prog_4_method_1_code 13 = .ok (.iconst 0, 1) := by decide +kernel
theorem d_Line_init_14 : decode prog_4_method_1_code 14 = .ok (.putfield 15, 3) := by decide +kernel
theorem d_Line_init_17 : decode prog_4_method_1_code 17 = .ok (.aload_n 0, 1) := by decide +kernel
theorem d_Line_init_18 : decode prog_4_method_1_code 18 = .ok (.iconst 0, 1) := by decide +kernel
theorem d_Line_init_19 : decode prog_4_method_1_code 19 = .ok (.putfield 19, 3) := by decide +kernel
theorem d_Line_init_22 : decode prog_4_method_1_code 22 = .ok (.return_, 1) := by decide +kernel
abbrev Y_Line_init : fw_Y := (⟨"FewTypes$Line", "<init>", "()V"⟩, prog_4_method_1_code, 1, none)
theorem ob_Line : Cond.methodLink "FewTypes$Line" 3 objectInit ∈ fw_tb := fw_m 119 (by decide +kernel) (by decide +kernel)
theorem ff_Line_9 : Cond.fieldLink "FewTypes$Line" 9 "FewTypes$Line" "letters" "[I" ∈ fw_tb := fw_m 120 (by decide +kernel) (by decide +kernel)
theorem ff_Line_15 : Cond.fieldLink "FewTypes$Line" 15 "FewTypes$Line" "size" "I" ∈ fw_tb := fw_m 124 (by decide +kernel) (by decide +kernel)
theorem ff_Line_19 : Cond.fieldLink "FewTypes$Line" 19 "FewTypes$Line" "besides" "I" ∈ fw_tb := fw_m 129 (by decide +kernel) (by decide +kernel)
set_option maxHeartbeats 8000000 in
set_option maxRecDepth 100000 in
theorem k_Line (l : Launch) (D : va_G) (dA : Nat → ClassId) (ad : Nat → Nat) (A : Nat → Prop) (h0 : Nat) : Met l Y_Line_init.1 (Cond.code Y_Line_init.1 Y_Line_init.2.1 Y_Line_init.2.2.1 Y_Line_init.2.2.2 :: fw_tb) ({ frames := 1, cells := 1, slots := 10, locals := 40 }) (va_Pc [.ref h0] (fw_KP D dA ad A [(h0, .inr (2, [.null, .int 0, .int 0]))])) (va_Qv (fun (_ : Unit) => True) (fun _ t => ∃ q1 : Nat, fw_KQ D dA A [(h0, .inr (2, [.ref q1, .int 0, .int 0])), (q1, .inl (dA 0, 10, .inl (fun _ => 0)))] t) A) 1 10 A := by
  refine Met.ofW (cc := prog_4_method_1_code) (maxL := 1) (ret := none) (by decide) rfl ?_
  intro p e s m args below meth c s₁ Bd hml hv
  obtain ⟨rfl, hA, hP, hK, hD, hC⟩ := hv
  have hx := Bd.exec
  have hb := Bd.bytes
  have hr := Bd.returns
  have hts0 := atoms_spec (ws := Cond.code Y_Line_init.1 Y_Line_init.2.1 Y_Line_init.2.2.1 Y_Line_init.2.2.2 :: fw_tb) Bd.pre
  have hts : ∀ w ∈ fw_tb, w.before ([.ref h0] : List Value).toArray s = true := fun w hw => hts0 w (List.mem_cons_of_mem _ hw)
  have hown : s.vm.findClass "FewTypes$Line" = some m.cls := findClass_of_methodNamed Bd.named
  have hlocks := Bd.notSynchronized
  have hin : meth.name = "<init>" := (name_of_methodNamed Bd.named Bd.method).1
  have hS : va_S A s.heap s.heap [] := va_S.rf
  have hl := lv_entry ([.ref h0]) (n := 1) (Nat.le_of_ble_eq_true rfl)
  rw [lg_entry_eq]
  generalize (lg_sl ([.ref h0]) ++ List.replicate (1 - (lg_sl ([.ref h0])).length) Slot.unset).toArray = ls at hl ⊢
  have hl : lv_has ls 1 [(0, .ref h0)] := hl
  refine lv_aload_n hx hb d_Line_init_0 rfl (lv_at hl 0 rfl) ?_
  refine W.objInit hx hb hown (hts _ ob_Line) (hts _ fw_oi1) (hts _ fw_oi2) rfl (by rw [hml]; exact hl.1) rfl d_Line_init_1 (Nat.le_of_ble_eq_true rfl) (Nat.le_of_ble_eq_true rfl) ?_
  refine W.eq (g2 := F0 m 4 ls []) rfl ?_
  refine lv_aload_n hx hb d_Line_init_4 rfl (lv_at hl 0 rfl) ?_
  refine lv_bipush (v := 10) hx hb d_Line_init_5 (by decide) ?_
  refine va_newa (D := D) (atype := .int) (a0 := (10, .inl (fun _ => 0))) hx hb (hts _ fw_ari) rfl hK hP hD hS hA (fun _ => rfl) (by decide) (N' := 10) (by decide) (by decide) (Nat.le_of_ble_eq_true rfl) (Nat.le_of_ble_eq_true rfl) d_Line_init_7 (fun q1 cA H hK1 hP hD hS => ?_)
  obtain rfl := fw_cA0 hK1
  clear hK1
  have hP : va_P D fw_cl [(h0, .inr (2, [.null, .int 0, .int 0])), (q1, .inl (dA 0, 10, .inl (fun _ => 0)))] H := hP
  have hD : va_D A [(h0, .inr (2, [.null, .int 0, .int 0])), (q1, .inl (dA 0, 10, .inl (fun _ => 0)))] := hD
  refine W.cs (cells' := 1) (slots' := 10) rfl rfl ?_
  refine va_putF (D := D) (ci := 2) (v := .ref q1) (ty := .array .int) (C := "FewTypes$Line") (T := fw_T2) (N := 3) hx hb hts fw_i2 fw_t2 fw_k2 fw_n2 hown hK hP hD hS 0 rfl rfl 0 (by decide) (hts _ ff_Line_9) (fun _ h9 => h9) rfl hin rfl (by decide +kernel) rfl rfl (Nat.le_of_ble_eq_true rfl) d_Line_init_9 (fun H locs hP hD hS => ?_)
  have hP : va_P D fw_cl [(h0, .inr (2, [.ref q1, .int 0, .int 0])), (q1, .inl (dA 0, 10, .inl (fun _ => 0)))] H := hP
  have hD : va_D A [(h0, .inr (2, [.ref q1, .int 0, .int 0])), (q1, .inl (dA 0, 10, .inl (fun _ => 0)))] := hD
  refine lv_aload_n hx hb d_Line_init_12 rfl (lv_at hl 0 rfl) ?_
  refine lv_iconst (v := 0) hx hb d_Line_init_13 (by decide) ?_
  refine va_put (D := D) (ci := 2) (v := .int 0) (ty := .int) (C := "FewTypes$Line") (T := fw_T2) (N := 3) hx hb hts fw_i2 fw_t2 fw_k2 fw_n2 hown hK hP hD hS 0 rfl rfl 1 (by decide) (hts _ ff_Line_15) (fun _ h9 => h9) rfl (by decide +kernel) rfl rfl (Nat.le_of_ble_eq_true rfl) d_Line_init_14 (fun H locs hP hD hS => ?_)
  have hP : va_P D fw_cl [(h0, .inr (2, [.ref q1, .int 0, .int 0])), (q1, .inl (dA 0, 10, .inl (fun _ => 0)))] H := hP
  have hD : va_D A [(h0, .inr (2, [.ref q1, .int 0, .int 0])), (q1, .inl (dA 0, 10, .inl (fun _ => 0)))] := hD
  refine lv_aload_n hx hb d_Line_init_17 rfl (lv_at hl 0 rfl) ?_
  refine lv_iconst (v := 0) hx hb d_Line_init_18 (by decide) ?_
  refine va_put (D := D) (ci := 2) (v := .int 0) (ty := .int) (C := "FewTypes$Line") (T := fw_T2) (N := 3) hx hb hts fw_i2 fw_t2 fw_k2 fw_n2 hown hK hP hD hS 0 rfl rfl 2 (by decide) (hts _ ff_Line_19) (fun _ h9 => h9) rfl (by decide +kernel) rfl rfl (Nat.le_of_ble_eq_true rfl) d_Line_init_19 (fun H locs hP hD hS => ?_)
  have hP : va_P D fw_cl [(h0, .inr (2, [.ref q1, .int 0, .int 0])), (q1, .inl (dA 0, 10, .inl (fun _ => 0)))] H := hP
  have hD : va_D A [(h0, .inr (2, [.ref q1, .int 0, .int 0])), (q1, .inl (dA 0, 10, .inl (fun _ => 0)))] := hD
  have hP9 := hP.sub (ws' := [(h0, .inr (2, [.ref q1, .int 0, .int 0])), (q1, .inl (dA 0, 10, .inl (fun _ => 0)))]) [0, 1] rfl
  have hD9 := hD.sub (ws' := [(h0, .inr (2, [.ref q1, .int 0, .int 0])), (q1, .inl (dA 0, 10, .inl (fun _ => 0)))]) [0, 1] (by decide) rfl
  exact W.vret hx hb hr (fun t ht hW => ⟨⟨(), rfl, trivial, q1, by rw [ht]; exact hP9, va_K.moved hW.alike hK, hD9⟩, hS.F ht⟩) hS.2.2 d_Line_init_22 hlocks
theorem d_Case_init_0 : decode prog_2_method_1_code 0 = .ok (.aload_n 0, 1) := by decide +kernel
theorem d_Case_init_1 : decode prog_2_method_1_code 1 = .ok (.invokespecial 3, 3) := by decide +kernel
theorem d_Case_init_4 : decode prog_2_method_1_code 4 = .ok (.aload_n 0, 1) := by decide +kernel
theorem d_Case_init_5 : decode prog_2_method_1_code 5 = .ok (.bipush 10, 2) := by decide +kernel
theorem d_Case_init_7 : decode prog_2_method_1_code 7 = .ok (.newarray .int, 2) := by decide +kernel
theorem d_Case_init_9 : decode prog_2_method_1_code 9 = .ok (.putfield 9, 3) := by decide +kernel
theorem d_Case_init_12 : decode prog_2_method_1_code 12 = .ok (.aload_n 0, 1) := by decide +kernel
theorem d_Case_init_13 : decode prog_2_method_1_code 13 = .ok (.bipush 10, 2) := by decide +kernel
theorem d_Case_init_15 : decode prog_2_method_1_code 15 = .ok (.newarray .int, 2) := by decide +kernel
theorem d_Case_init_17 : decode prog_2_method_1_code 17 = .ok (.putfield 15, 3) := by decide +kernel
theorem d_Case_init_20 : decode prog_2_method_1_code 20 = .ok (.aload_n 0, 1) := by decide +kernel
theorem d_Case_init_21 : decode prog_2_method_1_code 21 = .ok (.bipush 10, 2) := by decide +kernel
theorem d_Case_init_23 : decode prog_2_method_1_code 23 = .ok (.newarray .int, 2) := by decide +kernel
theorem d_Case_init_25 : decode prog_2_method_1_code 25 = .ok (.putfield 18, 3) := by decide +kernel
theorem d_Case_init_28 : decode prog_2_method_1_code 28 = .ok (.aload_n 0, 1) := by decide +kernel
theorem d_Case_init_29 : decode prog_2_method_1_code 29 = .ok (.iconst 0, 1) := by decide +kernel
theorem d_Case_init_30 : decode prog_2_method_1_code 30 = .ok (.putfield 21, 3) := by decide +kernel
theorem d_Case_init_33 : decode prog_2_method_1_code 33 = .ok (.return_, 1) := by decide +kernel
abbrev Y_Case_init : fw_Y := (⟨"FewTypes$Case", "<init>", "()V"⟩, prog_2_method_1_code, 1, none)
theorem ob_Case : Cond.methodLink "FewTypes$Case" 3 objectInit ∈ fw_tb := fw_m 92 (by decide +kernel) (by decide +kernel)
theorem ff_Case_9 : Cond.fieldLink "FewTypes$Case" 9 "FewTypes$Case" "kinds" "[I" ∈ fw_tb := fw_m 93 (by decide +kernel) (by decide +kernel)
theorem ff_Case_15 : Cond.fieldLink "FewTypes$Case" 15 "FewTypes$Case" "letters" "[I" ∈ fw_tb := fw_m 96 (by decide +kernel) (by decide +kernel)
theorem ff_Case_18 : Cond.fieldLink "FewTypes$Case" 18 "FewTypes$Case" "mores" "[I" ∈ fw_tb := fw_m 98 (by decide +kernel) (by decide +kernel)
theorem ff_Case_21 : Cond.fieldLink "FewTypes$Case" 21 "FewTypes$Case" "size" "I" ∈ fw_tb := fw_m 100 (by decide +kernel) (by decide +kernel)
set_option maxHeartbeats 8000000 in
set_option maxRecDepth 100000 in
theorem k_Case (l : Launch) (D : va_G) (dA : Nat → ClassId) (ad : Nat → Nat) (A : Nat → Prop) (h0 : Nat) : Met l Y_Case_init.1 (Cond.code Y_Case_init.1 Y_Case_init.2.1 Y_Case_init.2.2.1 Y_Case_init.2.2.2 :: fw_tb) ({ frames := 1, cells := 3, slots := 30, locals := 40 }) (va_Pc [.ref h0] (fw_KP D dA ad A [(h0, .inr (0, [.null, .null, .null, .int 0]))])) (va_Qv (fun (_ : Unit) => True) (fun _ t => ∃ q1 q2 q3 : Nat, fw_KQ D dA A [(h0, .inr (0, [.ref q1, .ref q2, .ref q3, .int 0])), (q1, .inl (dA 0, 10, .inl (fun _ => 0))), (q2, .inl (dA 0, 10, .inl (fun _ => 0))), (q3, .inl (dA 0, 10, .inl (fun _ => 0)))] t) A) 3 30 A := by
  refine Met.ofW (cc := prog_2_method_1_code) (maxL := 1) (ret := none) (by decide) rfl ?_
  intro p e s m args below meth c s₁ Bd hml hv
  obtain ⟨rfl, hA, hP, hK, hD, hC⟩ := hv
  have hx := Bd.exec
  have hb := Bd.bytes
  have hr := Bd.returns
  have hts0 := atoms_spec (ws := Cond.code Y_Case_init.1 Y_Case_init.2.1 Y_Case_init.2.2.1 Y_Case_init.2.2.2 :: fw_tb) Bd.pre
  have hts : ∀ w ∈ fw_tb, w.before ([.ref h0] : List Value).toArray s = true := fun w hw => hts0 w (List.mem_cons_of_mem _ hw)
  have hown : s.vm.findClass "FewTypes$Case" = some m.cls := findClass_of_methodNamed Bd.named
  have hlocks := Bd.notSynchronized
  have hin : meth.name = "<init>" := (name_of_methodNamed Bd.named Bd.method).1
  have hS : va_S A s.heap s.heap [] := va_S.rf
  have hl := lv_entry ([.ref h0]) (n := 1) (Nat.le_of_ble_eq_true rfl)
  rw [lg_entry_eq]
  generalize (lg_sl ([.ref h0]) ++ List.replicate (1 - (lg_sl ([.ref h0])).length) Slot.unset).toArray = ls at hl ⊢
  have hl : lv_has ls 1 [(0, .ref h0)] := hl
  refine lv_aload_n hx hb d_Case_init_0 rfl (lv_at hl 0 rfl) ?_
  refine W.objInit hx hb hown (hts _ ob_Case) (hts _ fw_oi1) (hts _ fw_oi2) rfl (by rw [hml]; exact hl.1) rfl d_Case_init_1 (Nat.le_of_ble_eq_true rfl) (Nat.le_of_ble_eq_true rfl) ?_
  refine W.eq (g2 := F0 m 4 ls []) rfl ?_
  refine lv_aload_n hx hb d_Case_init_4 rfl (lv_at hl 0 rfl) ?_
  refine lv_bipush (v := 10) hx hb d_Case_init_5 (by decide) ?_
  refine va_newa (D := D) (atype := .int) (a0 := (10, .inl (fun _ => 0))) hx hb (hts _ fw_ari) rfl hK hP hD hS hA (fun _ => rfl) (by decide) (N' := 10) (by decide) (by decide) (Nat.le_of_ble_eq_true rfl) (Nat.le_of_ble_eq_true rfl) d_Case_init_7 (fun q1 cA H hK1 hP hD hS => ?_)
  obtain rfl := fw_cA0 hK1
  clear hK1
  have hP : va_P D fw_cl [(h0, .inr (0, [.null, .null, .null, .int 0])), (q1, .inl (dA 0, 10, .inl (fun _ => 0)))] H := hP
  have hD : va_D A [(h0, .inr (0, [.null, .null, .null, .int 0])), (q1, .inl (dA 0, 10, .inl (fun _ => 0)))] := hD
  refine W.cs (cells' := 1) (slots' := 10) rfl rfl ?_
  refine va_putF (D := D) (ci := 0) (v := .ref q1) (ty := .array .int) (C := "FewTypes$Case") (T := fw_T0) (N := 4) hx hb hts fw_i0 fw_t0 fw_k0 fw_n0 hown hK hP hD hS 0 rfl rfl 0 (by decide) (hts _ ff_Case_9) (fun _ h9 => h9) rfl hin rfl (by decide +kernel) rfl rfl (Nat.le_of_ble_eq_true rfl) d_Case_init_9 (fun H locs hP hD hS => ?_)
  have hP : va_P D fw_cl [(h0, .inr (0, [.ref q1, .null, .null, .int 0])), (q1, .inl (dA 0, 10, .inl (fun _ => 0)))] H := hP
  have hD : va_D A [(h0, .inr (0, [.ref q1, .null, .null, .int 0])), (q1, .inl (dA 0, 10, .inl (fun _ => 0)))] := hD
  refine lv_aload_n hx hb d_Case_init_12 rfl (lv_at hl 0 rfl) ?_
  refine lv_bipush (v := 10) hx hb d_Case_init_13 (by decide) ?_
  refine va_newa (D := D) (atype := .int) (a0 := (10, .inl (fun _ => 0))) hx hb (hts _ fw_ari) rfl hK hP hD hS hA (fun _ => rfl) (by decide) (N' := 10) (by decide) (by decide) (Nat.le_of_ble_eq_true rfl) (Nat.le_of_ble_eq_true rfl) d_Case_init_15 (fun q2 cA H hK1 hP hD hS => ?_)
  obtain rfl := fw_cA0 hK1
  clear hK1
  have hP : va_P D fw_cl [(h0, .inr (0, [.ref q1, .null, .null, .int 0])), (q1, .inl (dA 0, 10, .inl (fun _ => 0))), (q2, .inl (dA 0, 10, .inl (fun _ => 0)))] H := hP
  have hD : va_D A [(h0, .inr (0, [.ref q1, .null, .null, .int 0])), (q1, .inl (dA 0, 10, .inl (fun _ => 0))), (q2, .inl (dA 0, 10, .inl (fun _ => 0)))] := hD
  refine W.cs (cells' := 2) (slots' := 20) rfl rfl ?_
  refine va_putF (D := D) (ci := 0) (v := .ref q2) (ty := .array .int) (C := "FewTypes$Case") (T := fw_T0) (N := 4) hx hb hts fw_i0 fw_t0 fw_k0 fw_n0 hown hK hP hD hS 0 rfl rfl 1 (by decide) (hts _ ff_Case_15) (fun _ h9 => h9) rfl hin rfl (by decide +kernel) rfl rfl (Nat.le_of_ble_eq_true rfl) d_Case_init_17 (fun H locs hP hD hS => ?_)
  have hP : va_P D fw_cl [(h0, .inr (0, [.ref q1, .ref q2, .null, .int 0])), (q1, .inl (dA 0, 10, .inl (fun _ => 0))), (q2, .inl (dA 0, 10, .inl (fun _ => 0)))] H := hP
  have hD : va_D A [(h0, .inr (0, [.ref q1, .ref q2, .null, .int 0])), (q1, .inl (dA 0, 10, .inl (fun _ => 0))), (q2, .inl (dA 0, 10, .inl (fun _ => 0)))] := hD
  refine lv_aload_n hx hb d_Case_init_20 rfl (lv_at hl 0 rfl) ?_
  refine lv_bipush (v := 10) hx hb d_Case_init_21 (by decide) ?_
  refine va_newa (D := D) (atype := .int) (a0 := (10, .inl (fun _ => 0))) hx hb (hts _ fw_ari) rfl hK hP hD hS hA (fun _ => rfl) (by decide) (N' := 10) (by decide) (by decide) (Nat.le_of_ble_eq_true rfl) (Nat.le_of_ble_eq_true rfl) d_Case_init_23 (fun q3 cA H hK1 hP hD hS => ?_)
  obtain rfl := fw_cA0 hK1
  clear hK1
  have hP : va_P D fw_cl [(h0, .inr (0, [.ref q1, .ref q2, .null, .int 0])), (q1, .inl (dA 0, 10, .inl (fun _ => 0))), (q2, .inl (dA 0, 10, .inl (fun _ => 0))), (q3, .inl (dA 0, 10, .inl (fun _ => 0)))] H := hP
  have hD : va_D A [(h0, .inr (0, [.ref q1, .ref q2, .null, .int 0])), (q1, .inl (dA 0, 10, .inl (fun _ => 0))), (q2, .inl (dA 0, 10, .inl (fun _ => 0))), (q3, .inl (dA 0, 10, .inl (fun _ => 0)))] := hD
  refine W.cs (cells' := 3) (slots' := 30) rfl rfl ?_
  refine va_putF (D := D) (ci := 0) (v := .ref q3) (ty := .array .int) (C := "FewTypes$Case") (T := fw_T0) (N := 4) hx hb hts fw_i0 fw_t0 fw_k0 fw_n0 hown hK hP hD hS 0 rfl rfl 2 (by decide) (hts _ ff_Case_18) (fun _ h9 => h9) rfl hin rfl (by decide +kernel) rfl rfl (Nat.le_of_ble_eq_true rfl) d_Case_init_25 (fun H locs hP hD hS => ?_)
  have hP : va_P D fw_cl [(h0, .inr (0, [.ref q1, .ref q2, .ref q3, .int 0])), (q1, .inl (dA 0, 10, .inl (fun _ => 0))), (q2, .inl (dA 0, 10, .inl (fun _ => 0))), (q3, .inl (dA 0, 10, .inl (fun _ => 0)))] H := hP
  have hD : va_D A [(h0, .inr (0, [.ref q1, .ref q2, .ref q3, .int 0])), (q1, .inl (dA 0, 10, .inl (fun _ => 0))), (q2, .inl (dA 0, 10, .inl (fun _ => 0))), (q3, .inl (dA 0, 10, .inl (fun _ => 0)))] := hD
  refine lv_aload_n hx hb d_Case_init_28 rfl (lv_at hl 0 rfl) ?_
  refine lv_iconst (v := 0) hx hb d_Case_init_29 (by decide) ?_
  refine va_put (D := D) (ci := 0) (v := .int 0) (ty := .int) (C := "FewTypes$Case") (T := fw_T0) (N := 4) hx hb hts fw_i0 fw_t0 fw_k0 fw_n0 hown hK hP hD hS 0 rfl rfl 3 (by decide) (hts _ ff_Case_21) (fun _ h9 => h9) rfl (by decide +kernel) rfl rfl (Nat.le_of_ble_eq_true rfl) d_Case_init_30 (fun H locs hP hD hS => ?_)
  have hP : va_P D fw_cl [(h0, .inr (0, [.ref q1, .ref q2, .ref q3, .int 0])), (q1, .inl (dA 0, 10, .inl (fun _ => 0))), (q2, .inl (dA 0, 10, .inl (fun _ => 0))), (q3, .inl (dA 0, 10, .inl (fun _ => 0)))] H := hP
  have hD : va_D A [(h0, .inr (0, [.ref q1, .ref q2, .ref q3, .int 0])), (q1, .inl (dA 0, 10, .inl (fun _ => 0))), (q2, .inl (dA 0, 10, .inl (fun _ => 0))), (q3, .inl (dA 0, 10, .inl (fun _ => 0)))] := hD
  have hP9 := hP.sub (ws' := [(h0, .inr (0, [.ref q1, .ref q2, .ref q3, .int 0])), (q1, .inl (dA 0, 10, .inl (fun _ => 0))), (q2, .inl (dA 0, 10, .inl (fun _ => 0))), (q3, .inl (dA 0, 10, .inl (fun _ => 0)))]) [0, 1, 2, 3] rfl
  have hD9 := hD.sub (ws' := [(h0, .inr (0, [.ref q1, .ref q2, .ref q3, .int 0])), (q1, .inl (dA 0, 10, .inl (fun _ => 0))), (q2, .inl (dA 0, 10, .inl (fun _ => 0))), (q3, .inl (dA 0, 10, .inl (fun _ => 0)))]) [0, 1, 2, 3] (by decide) rfl
  exact W.vret hx hb hr (fun t ht hW => ⟨⟨(), rfl, trivial, q1, q2, q3, by rw [ht]; exact hP9, va_K.moved hW.alike hK, hD9⟩, hS.F ht⟩) hS.2.2 d_Case_init_33 hlocks
theorem d_Jobs_init_0 : decode prog_3_method_1_code 0 = .ok (.aload_n 0, 1) := by decide +kernel
theorem d_Jobs_init_1 : decode prog_3_method_1_code 1 = .ok (.invokespecial 3, 3) := by decide +kernel
theorem d_Jobs_init_4 : decode prog_3_method_1_code 4 = .ok (.aload_n 0, 1) := by decide +kernel
theorem d_Jobs_init_5 : decode prog_3_method_1_code 5 = .ok (.bipush 8, 2) := by decide +kernel
theorem d_Jobs_init_7 : decode prog_3_method_1_code 7 = .ok (.newarray .int, 2) := by decide +kernel
theorem d_Jobs_init_9 : decode prog_3_method_1_code 9 = .ok (.putfield 9, 3) := by decide +kernel
theorem d_Jobs_init_12 : decode prog_3_method_1_code 12 = .ok (.aload_n 0, 1) := by decide +kernel
theorem d_Jobs_init_13 : decode prog_3_method_1_code 13 = .ok (.bipush 8, 2) := by decide +kernel
theorem d_Jobs_init_15 : decode prog_3_method_1_code 15 = .ok (.newarray .int, 2) := by decide +kernel
theorem d_Jobs_init_17 : decode prog_3_method_1_code 17 = .ok (.putfield 15, 3) := by decide +kernel
theorem d_Jobs_init_20 : decode prog_3_method_1_code 20 = .ok (.aload_n 0, 1) := by decide +kernel
theorem d_Jobs_init_21 : decode prog_3_method_1_code 21 = .ok (.bipush 8, 2) := by decide +kernel
theorem d_Jobs_init_23 : decode prog_3_method_1_code 23 = .ok (.newarray .int, 2) := by decide +kernel
theorem d_Jobs_init_25 : decode prog_3_method_1_code 25 = .ok (.putfield 18, 3) := by decide +kernel
theorem d_Jobs_init_28 : decode prog_3_method_1_code 28 = .ok (.aload_n 0, 1) := by decide +kernel
theorem d_Jobs_init_29 : decode prog_3_method_1_code 29 = .ok (.iconst 0, 1) := by decide +kernel
theorem d_Jobs_init_30 : decode prog_3_method_1_code 30 = .ok (.putfield 21, 3) := by decide +kernel
theorem d_Jobs_init_33 : decode prog_3_method_1_code 33 = .ok (.return_, 1) := by decide +kernel
abbrev Y_Jobs_init : fw_Y := (⟨"FewTypes$Jobs", "<init>", "()V"⟩, prog_3_method_1_code, 1, none)
theorem ob_Jobs : Cond.methodLink "FewTypes$Jobs" 3 objectInit ∈ fw_tb := fw_m 144 (by decide +kernel) (by decide +kernel)
theorem ff_Jobs_9 : Cond.fieldLink "FewTypes$Jobs" 9 "FewTypes$Jobs" "hours" "[I" ∈ fw_tb := fw_m 145 (by decide +kernel) (by decide +kernel)
theorem ff_Jobs_15 : Cond.fieldLink "FewTypes$Jobs" 15 "FewTypes$Jobs" "dues" "[I" ∈ fw_tb := fw_m 146 (by decide +kernel) (by decide +kernel)
theorem ff_Jobs_18 : Cond.fieldLink "FewTypes$Jobs" 18 "FewTypes$Jobs" "byDue" "[I" ∈ fw_tb := fw_m 147 (by decide +kernel) (by decide +kernel)
theorem ff_Jobs_21 : Cond.fieldLink "FewTypes$Jobs" 21 "FewTypes$Jobs" "size" "I" ∈ fw_tb := fw_m 148 (by decide +kernel) (by decide +kernel)
set_option maxHeartbeats 8000000 in
set_option maxRecDepth 100000 in
theorem k_Jobs (l : Launch) (D : va_G) (dA : Nat → ClassId) (ad : Nat → Nat) (A : Nat → Prop) (h0 : Nat) : Met l Y_Jobs_init.1 (Cond.code Y_Jobs_init.1 Y_Jobs_init.2.1 Y_Jobs_init.2.2.1 Y_Jobs_init.2.2.2 :: fw_tb) ({ frames := 1, cells := 3, slots := 24, locals := 40 }) (va_Pc [.ref h0] (fw_KP D dA ad A [(h0, .inr (1, [.null, .null, .null, .int 0]))])) (va_Qv (fun (_ : Unit) => True) (fun _ t => ∃ q1 q2 q3 : Nat, fw_KQ D dA A [(h0, .inr (1, [.ref q1, .ref q2, .ref q3, .int 0])), (q1, .inl (dA 0, 8, .inl (fun _ => 0))), (q2, .inl (dA 0, 8, .inl (fun _ => 0))), (q3, .inl (dA 0, 8, .inl (fun _ => 0)))] t) A) 3 24 A := by
  refine Met.ofW (cc := prog_3_method_1_code) (maxL := 1) (ret := none) (by decide) rfl ?_
  intro p e s m args below meth c s₁ Bd hml hv
  obtain ⟨rfl, hA, hP, hK, hD, hC⟩ := hv
  have hx := Bd.exec
  have hb := Bd.bytes
  have hr := Bd.returns
  have hts0 := atoms_spec (ws := Cond.code Y_Jobs_init.1 Y_Jobs_init.2.1 Y_Jobs_init.2.2.1 Y_Jobs_init.2.2.2 :: fw_tb) Bd.pre
  have hts : ∀ w ∈ fw_tb, w.before ([.ref h0] : List Value).toArray s = true := fun w hw => hts0 w (List.mem_cons_of_mem _ hw)
  have hown : s.vm.findClass "FewTypes$Jobs" = some m.cls := findClass_of_methodNamed Bd.named
  have hlocks := Bd.notSynchronized
  have hin : meth.name = "<init>" := (name_of_methodNamed Bd.named Bd.method).1
  have hS : va_S A s.heap s.heap [] := va_S.rf
  have hl := lv_entry ([.ref h0]) (n := 1) (Nat.le_of_ble_eq_true rfl)
  rw [lg_entry_eq]
  generalize (lg_sl ([.ref h0]) ++ List.replicate (1 - (lg_sl ([.ref h0])).length) Slot.unset).toArray = ls at hl ⊢
  have hl : lv_has ls 1 [(0, .ref h0)] := hl
  refine lv_aload_n hx hb d_Jobs_init_0 rfl (lv_at hl 0 rfl) ?_
  refine W.objInit hx hb hown (hts _ ob_Jobs) (hts _ fw_oi1) (hts _ fw_oi2) rfl (by rw [hml]; exact hl.1) rfl d_Jobs_init_1 (Nat.le_of_ble_eq_true rfl) (Nat.le_of_ble_eq_true rfl) ?_
  refine W.eq (g2 := F0 m 4 ls []) rfl ?_
  refine lv_aload_n hx hb d_Jobs_init_4 rfl (lv_at hl 0 rfl) ?_
  refine lv_bipush (v := 8) hx hb d_Jobs_init_5 (by decide) ?_
  refine va_newa (D := D) (atype := .int) (a0 := (8, .inl (fun _ => 0))) hx hb (hts _ fw_ari) rfl hK hP hD hS hA (fun _ => rfl) (by decide) (N' := 8) (by decide) (by decide) (Nat.le_of_ble_eq_true rfl) (Nat.le_of_ble_eq_true rfl) d_Jobs_init_7 (fun q1 cA H hK1 hP hD hS => ?_)
  obtain rfl := fw_cA0 hK1
  clear hK1
  have hP : va_P D fw_cl [(h0, .inr (1, [.null, .null, .null, .int 0])), (q1, .inl (dA 0, 8, .inl (fun _ => 0)))] H := hP
  have hD : va_D A [(h0, .inr (1, [.null, .null, .null, .int 0])), (q1, .inl (dA 0, 8, .inl (fun _ => 0)))] := hD
  refine W.cs (cells' := 1) (slots' := 8) rfl rfl ?_
  refine va_putF (D := D) (ci := 1) (v := .ref q1) (ty := .array .int) (C := "FewTypes$Jobs") (T := fw_T1) (N := 4) hx hb hts fw_i1 fw_t1 fw_k1 fw_n1 hown hK hP hD hS 0 rfl rfl 0 (by decide) (hts _ ff_Jobs_9) (fun _ h9 => h9) rfl hin rfl (by decide +kernel) rfl rfl (Nat.le_of_ble_eq_true rfl) d_Jobs_init_9 (fun H locs hP hD hS => ?_)
  have hP : va_P D fw_cl [(h0, .inr (1, [.ref q1, .null, .null, .int 0])), (q1, .inl (dA 0, 8, .inl (fun _ => 0)))] H := hP
  have hD : va_D A [(h0, .inr (1, [.ref q1, .null, .null, .int 0])), (q1, .inl (dA 0, 8, .inl (fun _ => 0)))] := hD
  refine lv_aload_n hx hb d_Jobs_init_12 rfl (lv_at hl 0 rfl) ?_
  refine lv_bipush (v := 8) hx hb d_Jobs_init_13 (by decide) ?_
  refine va_newa (D := D) (atype := .int) (a0 := (8, .inl (fun _ => 0))) hx hb (hts _ fw_ari) rfl hK hP hD hS hA (fun _ => rfl) (by decide) (N' := 8) (by decide) (by decide) (Nat.le_of_ble_eq_true rfl) (Nat.le_of_ble_eq_true rfl) d_Jobs_init_15 (fun q2 cA H hK1 hP hD hS => ?_)
  obtain rfl := fw_cA0 hK1
  clear hK1
  have hP : va_P D fw_cl [(h0, .inr (1, [.ref q1, .null, .null, .int 0])), (q1, .inl (dA 0, 8, .inl (fun _ => 0))), (q2, .inl (dA 0, 8, .inl (fun _ => 0)))] H := hP
  have hD : va_D A [(h0, .inr (1, [.ref q1, .null, .null, .int 0])), (q1, .inl (dA 0, 8, .inl (fun _ => 0))), (q2, .inl (dA 0, 8, .inl (fun _ => 0)))] := hD
  refine W.cs (cells' := 2) (slots' := 16) rfl rfl ?_
  refine va_putF (D := D) (ci := 1) (v := .ref q2) (ty := .array .int) (C := "FewTypes$Jobs") (T := fw_T1) (N := 4) hx hb hts fw_i1 fw_t1 fw_k1 fw_n1 hown hK hP hD hS 0 rfl rfl 1 (by decide) (hts _ ff_Jobs_15) (fun _ h9 => h9) rfl hin rfl (by decide +kernel) rfl rfl (Nat.le_of_ble_eq_true rfl) d_Jobs_init_17 (fun H locs hP hD hS => ?_)
  have hP : va_P D fw_cl [(h0, .inr (1, [.ref q1, .ref q2, .null, .int 0])), (q1, .inl (dA 0, 8, .inl (fun _ => 0))), (q2, .inl (dA 0, 8, .inl (fun _ => 0)))] H := hP
  have hD : va_D A [(h0, .inr (1, [.ref q1, .ref q2, .null, .int 0])), (q1, .inl (dA 0, 8, .inl (fun _ => 0))), (q2, .inl (dA 0, 8, .inl (fun _ => 0)))] := hD
  refine lv_aload_n hx hb d_Jobs_init_20 rfl (lv_at hl 0 rfl) ?_
  refine lv_bipush (v := 8) hx hb d_Jobs_init_21 (by decide) ?_
  refine va_newa (D := D) (atype := .int) (a0 := (8, .inl (fun _ => 0))) hx hb (hts _ fw_ari) rfl hK hP hD hS hA (fun _ => rfl) (by decide) (N' := 8) (by decide) (by decide) (Nat.le_of_ble_eq_true rfl) (Nat.le_of_ble_eq_true rfl) d_Jobs_init_23 (fun q3 cA H hK1 hP hD hS => ?_)
  obtain rfl := fw_cA0 hK1
  clear hK1
  have hP : va_P D fw_cl [(h0, .inr (1, [.ref q1, .ref q2, .null, .int 0])), (q1, .inl (dA 0, 8, .inl (fun _ => 0))), (q2, .inl (dA 0, 8, .inl (fun _ => 0))), (q3, .inl (dA 0, 8, .inl (fun _ => 0)))] H := hP
  have hD : va_D A [(h0, .inr (1, [.ref q1, .ref q2, .null, .int 0])), (q1, .inl (dA 0, 8, .inl (fun _ => 0))), (q2, .inl (dA 0, 8, .inl (fun _ => 0))), (q3, .inl (dA 0, 8, .inl (fun _ => 0)))] := hD
  refine W.cs (cells' := 3) (slots' := 24) rfl rfl ?_
  refine va_putF (D := D) (ci := 1) (v := .ref q3) (ty := .array .int) (C := "FewTypes$Jobs") (T := fw_T1) (N := 4) hx hb hts fw_i1 fw_t1 fw_k1 fw_n1 hown hK hP hD hS 0 rfl rfl 2 (by decide) (hts _ ff_Jobs_18) (fun _ h9 => h9) rfl hin rfl (by decide +kernel) rfl rfl (Nat.le_of_ble_eq_true rfl) d_Jobs_init_25 (fun H locs hP hD hS => ?_)
  have hP : va_P D fw_cl [(h0, .inr (1, [.ref q1, .ref q2, .ref q3, .int 0])), (q1, .inl (dA 0, 8, .inl (fun _ => 0))), (q2, .inl (dA 0, 8, .inl (fun _ => 0))), (q3, .inl (dA 0, 8, .inl (fun _ => 0)))] H := hP
  have hD : va_D A [(h0, .inr (1, [.ref q1, .ref q2, .ref q3, .int 0])), (q1, .inl (dA 0, 8, .inl (fun _ => 0))), (q2, .inl (dA 0, 8, .inl (fun _ => 0))), (q3, .inl (dA 0, 8, .inl (fun _ => 0)))] := hD
  refine lv_aload_n hx hb d_Jobs_init_28 rfl (lv_at hl 0 rfl) ?_
  refine lv_iconst (v := 0) hx hb d_Jobs_init_29 (by decide) ?_
  refine va_put (D := D) (ci := 1) (v := .int 0) (ty := .int) (C := "FewTypes$Jobs") (T := fw_T1) (N := 4) hx hb hts fw_i1 fw_t1 fw_k1 fw_n1 hown hK hP hD hS 0 rfl rfl 3 (by decide) (hts _ ff_Jobs_21) (fun _ h9 => h9) rfl (by decide +kernel) rfl rfl (Nat.le_of_ble_eq_true rfl) d_Jobs_init_30 (fun H locs hP hD hS => ?_)
  have hP : va_P D fw_cl [(h0, .inr (1, [.ref q1, .ref q2, .ref q3, .int 0])), (q1, .inl (dA 0, 8, .inl (fun _ => 0))), (q2, .inl (dA 0, 8, .inl (fun _ => 0))), (q3, .inl (dA 0, 8, .inl (fun _ => 0)))] H := hP
  have hD : va_D A [(h0, .inr (1, [.ref q1, .ref q2, .ref q3, .int 0])), (q1, .inl (dA 0, 8, .inl (fun _ => 0))), (q2, .inl (dA 0, 8, .inl (fun _ => 0))), (q3, .inl (dA 0, 8, .inl (fun _ => 0)))] := hD
  have hP9 := hP.sub (ws' := [(h0, .inr (1, [.ref q1, .ref q2, .ref q3, .int 0])), (q1, .inl (dA 0, 8, .inl (fun _ => 0))), (q2, .inl (dA 0, 8, .inl (fun _ => 0))), (q3, .inl (dA 0, 8, .inl (fun _ => 0)))]) [0, 1, 2, 3] rfl
  have hD9 := hD.sub (ws' := [(h0, .inr (1, [.ref q1, .ref q2, .ref q3, .int 0])), (q1, .inl (dA 0, 8, .inl (fun _ => 0))), (q2, .inl (dA 0, 8, .inl (fun _ => 0))), (q3, .inl (dA 0, 8, .inl (fun _ => 0)))]) [0, 1, 2, 3] (by decide) rfl
  exact W.vret hx hb hr (fun t ht hW => ⟨⟨(), rfl, trivial, q1, q2, q3, by rw [ht]; exact hP9, va_K.moved hW.alike hK, hD9⟩, hS.F ht⟩) hS.2.2 d_Jobs_init_33 hlocks
theorem d_Sheet_init_0 : decode prog_7_method_1_code 0 = .ok (.aload_n 0, 1) := by decide +kernel
theorem d_Sheet_init_1 : decode prog_7_method_1_code 1 = .ok (.invokespecial 3, 3) := by decide +kernel
theorem d_Sheet_init_4 : decode prog_7_method_1_code 4 = .ok (.aload_n 0, 1) := by decide +kernel
theorem d_Sheet_init_5 : decode prog_7_method_1_code 5 = .ok (.bipush 24, 2) := by decide +kernel
theorem d_Sheet_init_7 : decode prog_7_method_1_code 7 = .ok (.newarray .int, 2) := by decide +kernel
theorem d_Sheet_init_9 : decode prog_7_method_1_code 9 = .ok (.putfield 9, 3) := by decide +kernel
theorem d_Sheet_init_12 : decode prog_7_method_1_code 12 = .ok (.aload_n 0, 1) := by decide +kernel
theorem d_Sheet_init_13 : decode prog_7_method_1_code 13 = .ok (.iconst 0, 1) := by decide +kernel
theorem d_Sheet_init_14 : decode prog_7_method_1_code 14 = .ok (.putfield 15, 3) := by decide +kernel
theorem d_Sheet_init_17 : decode prog_7_method_1_code 17 = .ok (.aload_n 0, 1) := by decide +kernel
theorem d_Sheet_init_18 : decode prog_7_method_1_code 18 = .ok (.iconst 0, 1) := by decide +kernel
theorem d_Sheet_init_19 : decode prog_7_method_1_code 19 = .ok (.putfield 19, 3) := by decide +kernel
theorem d_Sheet_init_22 : decode prog_7_method_1_code 22 = .ok (.aload_n 0, 1) := by decide +kernel
theorem d_Sheet_init_23 : decode prog_7_method_1_code 23 = .ok (.iconst 0, 1) := by decide +kernel
theorem d_Sheet_init_24 : decode prog_7_method_1_code 24 = .ok (.putfield 22, 3) := by decide +kernel
theorem d_Sheet_init_27 : decode prog_7_method_1_code 27 = .ok (.return_, 1) := by decide +kernel
abbrev Y_Sheet_init : fw_Y := (⟨"FewTypes$Sheet", "<init>", "()V"⟩, prog_7_method_1_code, 1, none)
theorem ob_Sheet : Cond.methodLink "FewTypes$Sheet" 3 objectInit ∈ fw_tb := fw_m 295 (by decide +kernel) (by decide +kernel)
theorem ff_Sheet_9 : Cond.fieldLink "FewTypes$Sheet" 9 "FewTypes$Sheet" "items" "[I" ∈ fw_tb := fw_m 296 (by decide +kernel) (by decide +kernel)
theorem ff_Sheet_15 : Cond.fieldLink "FewTypes$Sheet" 15 "FewTypes$Sheet" "lane" "I" ∈ fw_tb := fw_m 298 (by decide +kernel) (by decide +kernel)
theorem ff_Sheet_19 : Cond.fieldLink "FewTypes$Sheet" 19 "FewTypes$Sheet" "size" "I" ∈ fw_tb := fw_m 300 (by decide +kernel) (by decide +kernel)
theorem ff_Sheet_22 : Cond.fieldLink "FewTypes$Sheet" 22 "FewTypes$Sheet" "isThere" "Z" ∈ fw_tb := fw_m 302 (by decide +kernel) (by decide +kernel)
set_option maxHeartbeats 8000000 in
set_option maxRecDepth 100000 in
theorem k_Sheet (l : Launch) (D : va_G) (dA : Nat → ClassId) (ad : Nat → Nat) (A : Nat → Prop) (h0 : Nat) : Met l Y_Sheet_init.1 (Cond.code Y_Sheet_init.1 Y_Sheet_init.2.1 Y_Sheet_init.2.2.1 Y_Sheet_init.2.2.2 :: fw_tb) ({ frames := 1, cells := 1, slots := 24, locals := 40 }) (va_Pc [.ref h0] (fw_KP D dA ad A [(h0, .inr (5, [.null, .int 0, .int 0, .int 0]))])) (va_Qv (fun (_ : Unit) => True) (fun _ t => ∃ q1 : Nat, fw_KQ D dA A [(h0, .inr (5, [.ref q1, .int 0, .int 0, .int 0])), (q1, .inl (dA 0, 24, .inl (fun _ => 0)))] t) A) 1 24 A := by
  refine Met.ofW (cc := prog_7_method_1_code) (maxL := 1) (ret := none) (by decide) rfl ?_
  intro p e s m args below meth c s₁ Bd hml hv
  obtain ⟨rfl, hA, hP, hK, hD, hC⟩ := hv
  have hx := Bd.exec
  have hb := Bd.bytes
  have hr := Bd.returns
  have hts0 := atoms_spec (ws := Cond.code Y_Sheet_init.1 Y_Sheet_init.2.1 Y_Sheet_init.2.2.1 Y_Sheet_init.2.2.2 :: fw_tb) Bd.pre
  have hts : ∀ w ∈ fw_tb, w.before ([.ref h0] : List Value).toArray s = true := fun w hw => hts0 w (List.mem_cons_of_mem _ hw)
  have hown : s.vm.findClass "FewTypes$Sheet" = some m.cls := findClass_of_methodNamed Bd.named
  have hlocks := Bd.notSynchronized
  have hin : meth.name = "<init>" := (name_of_methodNamed Bd.named Bd.method).1
  have hS : va_S A s.heap s.heap [] := va_S.rf
  have hl := lv_entry ([.ref h0]) (n := 1) (Nat.le_of_ble_eq_true rfl)
  rw [lg_entry_eq]
  generalize (lg_sl ([.ref h0]) ++ List.replicate (1 - (lg_sl ([.ref h0])).length) Slot.unset).toArray = ls at hl ⊢
  have hl : lv_has ls 1 [(0, .ref h0)] := hl
  refine lv_aload_n hx hb d_Sheet_init_0 rfl (lv_at hl 0 rfl) ?_
  refine W.objInit hx hb hown (hts _ ob_Sheet) (hts _ fw_oi1) (hts _ fw_oi2) rfl (by rw [hml]; exact hl.1) rfl d_Sheet_init_1 (Nat.le_of_ble_eq_true rfl) (Nat.le_of_ble_eq_true rfl) ?_
  refine W.eq (g2 := F0 m 4 ls []) rfl ?_
  refine lv_aload_n hx hb d_Sheet_init_4 rfl (lv_at hl 0 rfl) ?_
  refine lv_bipush (v := 24) hx hb d_Sheet_init_5 (by decide) ?_
  refine va_newa (D := D) (atype := .int) (a0 := (24, .inl (fun _ => 0))) hx hb (hts _ fw_ari) rfl hK hP hD hS hA (fun _ => rfl) (by decide) (N' := 24) (by decide) (by decide) (Nat.le_of_ble_eq_true rfl) (Nat.le_of_ble_eq_true rfl) d_Sheet_init_7 (fun q1 cA H hK1 hP hD hS => ?_)
  obtain rfl := fw_cA0 hK1
  clear hK1
  have hP : va_P D fw_cl [(h0, .inr (5, [.null, .int 0, .int 0, .int 0])), (q1, .inl (dA 0, 24, .inl (fun _ => 0)))] H := hP
  have hD : va_D A [(h0, .inr (5, [.null, .int 0, .int 0, .int 0])), (q1, .inl (dA 0, 24, .inl (fun _ => 0)))] := hD
  refine W.cs (cells' := 1) (slots' := 24) rfl rfl ?_
  refine va_putF (D := D) (ci := 5) (v := .ref q1) (ty := .array .int) (C := "FewTypes$Sheet") (T := fw_T5) (N := 4) hx hb hts fw_i5 fw_t5 fw_k5 fw_n5 hown hK hP hD hS 0 rfl rfl 0 (by decide) (hts _ ff_Sheet_9) (fun _ h9 => h9) rfl hin rfl (by decide +kernel) rfl rfl (Nat.le_of_ble_eq_true rfl) d_Sheet_init_9 (fun H locs hP hD hS => ?_)
  have hP : va_P D fw_cl [(h0, .inr (5, [.ref q1, .int 0, .int 0, .int 0])), (q1, .inl (dA 0, 24, .inl (fun _ => 0)))] H := hP
  have hD : va_D A [(h0, .inr (5, [.ref q1, .int 0, .int 0, .int 0])), (q1, .inl (dA 0, 24, .inl (fun _ => 0)))] := hD
  refine lv_aload_n hx hb d_Sheet_init_12 rfl (lv_at hl 0 rfl) ?_
  refine lv_iconst (v := 0) hx hb d_Sheet_init_13 (by decide) ?_
  refine va_put (D := D) (ci := 5) (v := .int 0) (ty := .int) (C := "FewTypes$Sheet") (T := fw_T5) (N := 4) hx hb hts fw_i5 fw_t5 fw_k5 fw_n5 hown hK hP hD hS 0 rfl rfl 1 (by decide) (hts _ ff_Sheet_15) (fun _ h9 => h9) rfl (by decide +kernel) rfl rfl (Nat.le_of_ble_eq_true rfl) d_Sheet_init_14 (fun H locs hP hD hS => ?_)
  have hP : va_P D fw_cl [(h0, .inr (5, [.ref q1, .int 0, .int 0, .int 0])), (q1, .inl (dA 0, 24, .inl (fun _ => 0)))] H := hP
  have hD : va_D A [(h0, .inr (5, [.ref q1, .int 0, .int 0, .int 0])), (q1, .inl (dA 0, 24, .inl (fun _ => 0)))] := hD
  refine lv_aload_n hx hb d_Sheet_init_17 rfl (lv_at hl 0 rfl) ?_
  refine lv_iconst (v := 0) hx hb d_Sheet_init_18 (by decide) ?_
  refine va_put (D := D) (ci := 5) (v := .int 0) (ty := .int) (C := "FewTypes$Sheet") (T := fw_T5) (N := 4) hx hb hts fw_i5 fw_t5 fw_k5 fw_n5 hown hK hP hD hS 0 rfl rfl 2 (by decide) (hts _ ff_Sheet_19) (fun _ h9 => h9) rfl (by decide +kernel) rfl rfl (Nat.le_of_ble_eq_true rfl) d_Sheet_init_19 (fun H locs hP hD hS => ?_)
  have hP : va_P D fw_cl [(h0, .inr (5, [.ref q1, .int 0, .int 0, .int 0])), (q1, .inl (dA 0, 24, .inl (fun _ => 0)))] H := hP
  have hD : va_D A [(h0, .inr (5, [.ref q1, .int 0, .int 0, .int 0])), (q1, .inl (dA 0, 24, .inl (fun _ => 0)))] := hD
  refine lv_aload_n hx hb d_Sheet_init_22 rfl (lv_at hl 0 rfl) ?_
  refine lv_iconst (v := 0) hx hb d_Sheet_init_23 (by decide) ?_
  refine va_put (D := D) (ci := 5) (v := .int 0) (ty := .boolean) (C := "FewTypes$Sheet") (T := fw_T5) (N := 4) hx hb hts fw_i5 fw_t5 fw_k5 fw_n5 hown hK hP hD hS 0 rfl rfl 3 (by decide) (hts _ ff_Sheet_22) (fun _ h9 => h9) rfl (by decide +kernel) rfl rfl (Nat.le_of_ble_eq_true rfl) d_Sheet_init_24 (fun H locs hP hD hS => ?_)
  have hP : va_P D fw_cl [(h0, .inr (5, [.ref q1, .int 0, .int 0, .int 0])), (q1, .inl (dA 0, 24, .inl (fun _ => 0)))] H := hP
  have hD : va_D A [(h0, .inr (5, [.ref q1, .int 0, .int 0, .int 0])), (q1, .inl (dA 0, 24, .inl (fun _ => 0)))] := hD
  have hP9 := hP.sub (ws' := [(h0, .inr (5, [.ref q1, .int 0, .int 0, .int 0])), (q1, .inl (dA 0, 24, .inl (fun _ => 0)))]) [0, 1] rfl
  have hD9 := hD.sub (ws' := [(h0, .inr (5, [.ref q1, .int 0, .int 0, .int 0])), (q1, .inl (dA 0, 24, .inl (fun _ => 0)))]) [0, 1] (by decide) rfl
  exact W.vret hx hb hr (fun t ht hW => ⟨⟨(), rfl, trivial, q1, by rw [ht]; exact hP9, va_K.moved hW.alike hK, hD9⟩, hS.F ht⟩) hS.2.2 d_Sheet_init_27 hlocks
theorem d_Tape_init_0 : decode prog_9_method_1_code 0 = .ok (.aload_n 0, 1) := by decide +kernel
theorem d_Tape_init_1 : decode prog_9_method_1_code 1 = .ok (.invokespecial 3, 3) := by decide +kernel
theorem d_Tape_init_4 : decode prog_9_method_1_code 4 = .ok (.aload_n 0, 1) := by decide +kernel
theorem d_Tape_init_5 : decode prog_9_method_1_code 5 = .ok (.bipush 60, 2) := by decide +kernel
theorem d_Tape_init_7 : decode prog_9_method_1_code 7 = .ok (.newarray .int, 2) := by decide +kernel
theorem d_Tape_init_9 : decode prog_9_method_1_code 9 = .ok (.putfield 9, 3) := by decide +kernel
theorem d_Tape_init_12 : decode prog_9_method_1_code 12 = .ok (.aload_n 0, 1) := by decide +kernel
theorem d_Tape_init_13 : decode prog_9_method_1_code 13 = .ok (.iconst 0, 1) := by decide +kernel
theorem d_Tape_init_14 : decode prog_9_method_1_code 14 = .ok (.putfield 15, 3) := by decide +kernel
theorem d_Tape_init_17 : decode prog_9_method_1_code 17 = .ok (.aload_n 0, 1) := by decide +kernel
theorem d_Tape_init_18 : decode prog_9_method_1_code 18 = .ok (.iconst 0, 1) := by decide +kernel
theorem d_Tape_init_19 : decode prog_9_method_1_code 19 = .ok (.putfield 19, 3) := by decide +kernel
theorem d_Tape_init_22 : decode prog_9_method_1_code 22 = .ok (.return_, 1) := by decide +kernel
abbrev Y_Tape_init : fw_Y := (⟨"FewTypes$Tape", "<init>", "()V"⟩, prog_9_method_1_code, 1, none)
theorem ob_Tape : Cond.methodLink "FewTypes$Tape" 3 objectInit ∈ fw_tb := fw_m 208 (by decide +kernel) (by decide +kernel)
theorem ff_Tape_9 : Cond.fieldLink "FewTypes$Tape" 9 "FewTypes$Tape" "bytes" "[I" ∈ fw_tb := fw_m 209 (by decide +kernel) (by decide +kernel)
theorem ff_Tape_15 : Cond.fieldLink "FewTypes$Tape" 15 "FewTypes$Tape" "size" "I" ∈ fw_tb := fw_m 210 (by decide +kernel) (by decide +kernel)
theorem ff_Tape_19 : Cond.fieldLink "FewTypes$Tape" 19 "FewTypes$Tape" "at" "I" ∈ fw_tb := fw_m 212 (by decide +kernel) (by decide +kernel)
set_option maxHeartbeats 8000000 in
set_option maxRecDepth 100000 in
theorem k_Tape (l : Launch) (D : va_G) (dA : Nat → ClassId) (ad : Nat → Nat) (A : Nat → Prop) (h0 : Nat) : Met l Y_Tape_init.1 (Cond.code Y_Tape_init.1 Y_Tape_init.2.1 Y_Tape_init.2.2.1 Y_Tape_init.2.2.2 :: fw_tb) ({ frames := 1, cells := 1, slots := 60, locals := 40 }) (va_Pc [.ref h0] (fw_KP D dA ad A [(h0, .inr (7, [.null, .int 0, .int 0]))])) (va_Qv (fun (_ : Unit) => True) (fun _ t => ∃ q1 : Nat, fw_KQ D dA A [(h0, .inr (7, [.ref q1, .int 0, .int 0])), (q1, .inl (dA 0, 60, .inl (fun _ => 0)))] t) A) 1 60 A := by
  refine Met.ofW (cc := prog_9_method_1_code) (maxL := 1) (ret := none) (by decide) rfl ?_
  intro p e s m args below meth c s₁ Bd hml hv
  obtain ⟨rfl, hA, hP, hK, hD, hC⟩ := hv
  have hx := Bd.exec
  have hb := Bd.bytes
  have hr := Bd.returns
  have hts0 := atoms_spec (ws := Cond.code Y_Tape_init.1 Y_Tape_init.2.1 Y_Tape_init.2.2.1 Y_Tape_init.2.2.2 :: fw_tb) Bd.pre
  have hts : ∀ w ∈ fw_tb, w.before ([.ref h0] : List Value).toArray s = true := fun w hw => hts0 w (List.mem_cons_of_mem _ hw)
  have hown : s.vm.findClass "FewTypes$Tape" = some m.cls := findClass_of_methodNamed Bd.named
  have hlocks := Bd.notSynchronized
  have hin : meth.name = "<init>" := (name_of_methodNamed Bd.named Bd.method).1
  have hS : va_S A s.heap s.heap [] := va_S.rf
  have hl := lv_entry ([.ref h0]) (n := 1) (Nat.le_of_ble_eq_true rfl)
  rw [lg_entry_eq]
  generalize (lg_sl ([.ref h0]) ++ List.replicate (1 - (lg_sl ([.ref h0])).length) Slot.unset).toArray = ls at hl ⊢
  have hl : lv_has ls 1 [(0, .ref h0)] := hl
  refine lv_aload_n hx hb d_Tape_init_0 rfl (lv_at hl 0 rfl) ?_
  refine W.objInit hx hb hown (hts _ ob_Tape) (hts _ fw_oi1) (hts _ fw_oi2) rfl (by rw [hml]; exact hl.1) rfl d_Tape_init_1 (Nat.le_of_ble_eq_true rfl) (Nat.le_of_ble_eq_true rfl) ?_
  refine W.eq (g2 := F0 m 4 ls []) rfl ?_
  refine lv_aload_n hx hb d_Tape_init_4 rfl (lv_at hl 0 rfl) ?_
  refine lv_bipush (v := 60) hx hb d_Tape_init_5 (by decide) ?_
  refine va_newa (D := D) (atype := .int) (a0 := (60, .inl (fun _ => 0))) hx hb (hts _ fw_ari) rfl hK hP hD hS hA (fun _ => rfl) (by decide) (N' := 60) (by decide) (by decide) (Nat.le_of_ble_eq_true rfl) (Nat.le_of_ble_eq_true rfl) d_Tape_init_7 (fun q1 cA H hK1 hP hD hS => ?_)
  obtain rfl := fw_cA0 hK1
  clear hK1
  have hP : va_P D fw_cl [(h0, .inr (7, [.null, .int 0, .int 0])), (q1, .inl (dA 0, 60, .inl (fun _ => 0)))] H := hP
  have hD : va_D A [(h0, .inr (7, [.null, .int 0, .int 0])), (q1, .inl (dA 0, 60, .inl (fun _ => 0)))] := hD
  refine W.cs (cells' := 1) (slots' := 60) rfl rfl ?_
  refine va_putF (D := D) (ci := 7) (v := .ref q1) (ty := .array .int) (C := "FewTypes$Tape") (T := fw_T7) (N := 3) hx hb hts fw_i7 fw_t7 fw_k7 fw_n7 hown hK hP hD hS 0 rfl rfl 0 (by decide) (hts _ ff_Tape_9) (fun _ h9 => h9) rfl hin rfl (by decide +kernel) rfl rfl (Nat.le_of_ble_eq_true rfl) d_Tape_init_9 (fun H locs hP hD hS => ?_)
  have hP : va_P D fw_cl [(h0, .inr (7, [.ref q1, .int 0, .int 0])), (q1, .inl (dA 0, 60, .inl (fun _ => 0)))] H := hP
  have hD : va_D A [(h0, .inr (7, [.ref q1, .int 0, .int 0])), (q1, .inl (dA 0, 60, .inl (fun _ => 0)))] := hD
  refine lv_aload_n hx hb d_Tape_init_12 rfl (lv_at hl 0 rfl) ?_
  refine lv_iconst (v := 0) hx hb d_Tape_init_13 (by decide) ?_
  refine va_put (D := D) (ci := 7) (v := .int 0) (ty := .int) (C := "FewTypes$Tape") (T := fw_T7) (N := 3) hx hb hts fw_i7 fw_t7 fw_k7 fw_n7 hown hK hP hD hS 0 rfl rfl 1 (by decide) (hts _ ff_Tape_15) (fun _ h9 => h9) rfl (by decide +kernel) rfl rfl (Nat.le_of_ble_eq_true rfl) d_Tape_init_14 (fun H locs hP hD hS => ?_)
  have hP : va_P D fw_cl [(h0, .inr (7, [.ref q1, .int 0, .int 0])), (q1, .inl (dA 0, 60, .inl (fun _ => 0)))] H := hP
  have hD : va_D A [(h0, .inr (7, [.ref q1, .int 0, .int 0])), (q1, .inl (dA 0, 60, .inl (fun _ => 0)))] := hD
  refine lv_aload_n hx hb d_Tape_init_17 rfl (lv_at hl 0 rfl) ?_
  refine lv_iconst (v := 0) hx hb d_Tape_init_18 (by decide) ?_
  refine va_put (D := D) (ci := 7) (v := .int 0) (ty := .int) (C := "FewTypes$Tape") (T := fw_T7) (N := 3) hx hb hts fw_i7 fw_t7 fw_k7 fw_n7 hown hK hP hD hS 0 rfl rfl 2 (by decide) (hts _ ff_Tape_19) (fun _ h9 => h9) rfl (by decide +kernel) rfl rfl (Nat.le_of_ble_eq_true rfl) d_Tape_init_19 (fun H locs hP hD hS => ?_)
  have hP : va_P D fw_cl [(h0, .inr (7, [.ref q1, .int 0, .int 0])), (q1, .inl (dA 0, 60, .inl (fun _ => 0)))] H := hP
  have hD : va_D A [(h0, .inr (7, [.ref q1, .int 0, .int 0])), (q1, .inl (dA 0, 60, .inl (fun _ => 0)))] := hD
  have hP9 := hP.sub (ws' := [(h0, .inr (7, [.ref q1, .int 0, .int 0])), (q1, .inl (dA 0, 60, .inl (fun _ => 0)))]) [0, 1] rfl
  have hD9 := hD.sub (ws' := [(h0, .inr (7, [.ref q1, .int 0, .int 0])), (q1, .inl (dA 0, 60, .inl (fun _ => 0)))]) [0, 1] (by decide) rfl
  exact W.vret hx hb hr (fun t ht hW => ⟨⟨(), rfl, trivial, q1, by rw [ht]; exact hP9, va_K.moved hW.alike hK, hD9⟩, hS.F ht⟩) hS.2.2 d_Tape_init_22 hlocks
theorem d_Press_init_0 : decode prog_6_method_1_code 0 = .ok (.aload_n 0, 1) := by decide +kernel
theorem d_Press_init_1 : decode prog_6_method_1_code 1 = .ok (.invokespecial 3, 3) := by decide +kernel
theorem d_Press_init_4 : decode prog_6_method_1_code 4 = .ok (.aload_n 0, 1) := by decide +kernel
theorem d_Press_init_5 : decode prog_6_method_1_code 5 = .ok (.bipush 10, 2) := by decide +kernel
theorem d_Press_init_7 : decode prog_6_method_1_code 7 = .ok (.newarray .int, 2) := by decide +kernel
theorem d_Press_init_9 : decode prog_6_method_1_code 9 = .ok (.putfield 9, 3) := by decide +kernel
theorem d_Press_init_12 : decode prog_6_method_1_code 12 = .ok (.aload_n 0, 1) := by decide +kernel
theorem d_Press_init_13 : decode prog_6_method_1_code 13 = .ok (.bipush 10, 2) := by decide +kernel
theorem d_Press_init_15 : decode prog_6_method_1_code 15 = .ok (.newarray .int, 2) := by decide +kernel
theorem d_Press_init_17 : decode prog_6_method_1_code 17 = .ok (.putfield 15, 3) := by decide +kernel
theorem d_Press_init_20 : decode prog_6_method_1_code 20 = .ok (.aload_n 0, 1) := by decide +kernel
theorem d_Press_init_21 : decode prog_6_method_1_code 21 = .ok (.bipush 10, 2) := by decide +kernel
theorem d_Press_init_23 : decode prog_6_method_1_code 23 = .ok (.newarray .int, 2) := by decide +kernel
theorem d_Press_init_25 : decode prog_6_method_1_code 25 = .ok (.putfield 18, 3) := by decide +kernel
theorem d_Press_init_28 : decode prog_6_method_1_code 28 = .ok (.aload_n 0, 1) := by decide +kernel
theorem d_Press_init_29 : decode prog_6_method_1_code 29 = .ok (.sipush 176, 3) := by decide +kernel
theorem d_Press_init_32 : decode prog_6_method_1_code 32 = .ok (.newarray .long, 2) := by decide +kernel
theorem d_Press_init_34 : decode prog_6_method_1_code 34 = .ok (.putfield 21, 3) := by decide +kernel
theorem d_Press_init_37 : decode prog_6_method_1_code 37 = .ok (.aload_n 0, 1) := by decide +kernel
theorem d_Press_init_38 : decode prog_6_method_1_code 38 = .ok (.sipush 1024, 3) := by decide +kernel
theorem d_Press_init_41 : decode prog_6_method_1_code 41 = .ok (.newarray .int, 2) := by decide +kernel
theorem d_Press_init_43 : decode prog_6_method_1_code 43 = .ok (.putfield 25, 3) := by decide +kernel
theorem d_Press_init_46 : decode prog_6_method_1_code 46 = .ok (.aload_n 0, 1) := by decide +kernel
theorem d_Press_init_47 : decode prog_6_method_1_code 47 = .ok (.iconst 0, 1) := by decide +kernel
theorem d_Press_init_48 : decode prog_6_method_1_code 48 = .ok (.putfield 28, 3) := by decide +kernel
theorem d_Press_init_51 : decode prog_6_method_1_code 51 = .ok (.aload_n 0, 1) := by decide +kernel
theorem d_Press_init_52 : decode prog_6_method_1_code 52 = .ok (.iconst 0, 1) := by decide +kernel
theorem d_Press_init_53 : decode prog_6_method_1_code 53 = .ok (.putfield 32, 3) := by decide +kernel
theorem d_Press_init_56 : decode prog_6_method_1_code 56 = .ok (.aload_n 0, 1) := by decide +kernel
theorem d_Press_init_57 : decode prog_6_method_1_code 57 = .ok (.iconst 0, 1) := by decide +kernel
theorem d_Press_init_58 : decode prog_6_method_1_code 58 = .ok (.putfield 35, 3) := by decide +kernel
theorem d_Press_init_61 : decode prog_6_method_1_code 61 = .ok (.aload_n 0, 1) := by decide +kernel
theorem d_Press_init_62 : decode prog_6_method_1_code 62 = .ok (.iconst 0, 1) := by decide +kernel
theorem d_Press_init_63 : decode prog_6_method_1_code 63 = .ok (.putfield 39, 3) := by decide +kernel
theorem d_Press_init_66 : decode prog_6_method_1_code 66 = .ok (.aload_n 0, 1) := by decide +kernel
theorem d_Press_init_67 : decode prog_6_method_1_code 67 = .ok (.iconst 1, 1) := by decide +kernel
theorem d_Press_init_68 : decode prog_6_method_1_code 68 = .ok (.putfield 42, 3) := by decide +kernel
theorem d_Press_init_71 : decode prog_6_method_1_code 71 = .ok (.aload_n 0, 1) := by decide +kernel
theorem d_Press_init_72 : decode prog_6_method_1_code 72 = .ok (.iconst 0, 1) := by decide +kernel
theorem d_Press_init_73 : decode prog_6_method_1_code 73 = .ok (.putfield 45, 3) := by decide +kernel
theorem d_Press_init_76 : decode prog_6_method_1_code 76 = .ok (.return_, 1) := by decide +kernel
abbrev Y_Press_init : fw_Y := (⟨"FewTypes$Press", "<init>", "()V"⟩, prog_6_method_1_code, 1, none)
theorem ob_Press : Cond.methodLink "FewTypes$Press" 3 objectInit ∈ fw_tb := fw_m 225 (by decide +kernel) (by decide +kernel)
theorem ff_Press_9 : Cond.fieldLink "FewTypes$Press" 9 "FewTypes$Press" "numbers" "[I" ∈ fw_tb := fw_m 226 (by decide +kernel) (by decide +kernel)
theorem ff_Press_15 : Cond.fieldLink "FewTypes$Press" 15 "FewTypes$Press" "alone" "[I" ∈ fw_tb := fw_m 227 (by decide +kernel) (by decide +kernel)
theorem ff_Press_18 : Cond.fieldLink "FewTypes$Press" 18 "FewTypes$Press" "joined" "[I" ∈ fw_tb := fw_m 228 (by decide +kernel) (by decide +kernel)
theorem ff_Press_21 : Cond.fieldLink "FewTypes$Press" 21 "FewTypes$Press" "rows" "[J" ∈ fw_tb := fw_m 229 (by decide +kernel) (by decide +kernel)
theorem ff_Press_25 : Cond.fieldLink "FewTypes$Press" 25 "FewTypes$Press" "least" "[I" ∈ fw_tb := fw_m 230 (by decide +kernel) (by decide +kernel)
theorem ff_Press_28 : Cond.fieldLink "FewTypes$Press" 28 "FewTypes$Press" "places" "I" ∈ fw_tb := fw_m 231 (by decide +kernel) (by decide +kernel)
theorem ff_Press_32 : Cond.fieldLink "FewTypes$Press" 32 "FewTypes$Press" "besides" "I" ∈ fw_tb := fw_m 232 (by decide +kernel) (by decide +kernel)
theorem ff_Press_35 : Cond.fieldLink "FewTypes$Press" 35 "FewTypes$Press" "wedges" "Z" ∈ fw_tb := fw_m 233 (by decide +kernel) (by decide +kernel)
theorem ff_Press_39 : Cond.fieldLink "FewTypes$Press" 39 "FewTypes$Press" "useful" "I" ∈ fw_tb := fw_m 234 (by decide +kernel) (by decide +kernel)
theorem ff_Press_42 : Cond.fieldLink "FewTypes$Press" 42 "FewTypes$Press" "words" "I" ∈ fw_tb := fw_m 235 (by decide +kernel) (by decide +kernel)
theorem ff_Press_45 : Cond.fieldLink "FewTypes$Press" 45 "FewTypes$Press" "capacity" "I" ∈ fw_tb := fw_m 236 (by decide +kernel) (by decide +kernel)
set_option maxHeartbeats 8000000 in
set_option maxRecDepth 100000 in
theorem k_Press (l : Launch) (D : va_G) (dA : Nat → ClassId) (ad : Nat → Nat) (A : Nat → Prop) (h0 : Nat) : Met l Y_Press_init.1 (Cond.code Y_Press_init.1 Y_Press_init.2.1 Y_Press_init.2.2.1 Y_Press_init.2.2.2 :: fw_tb) ({ frames := 1, cells := 5, slots := 1230, locals := 40 }) (va_Pc [.ref h0] (fw_KP D dA ad A [(h0, .inr (4, [.null, .null, .null, .null, .null, .int 0, .int 0, .int 0, .int 0, .int 0, .int 0]))])) (va_Qv (fun (_ : Unit) => True) (fun _ t => ∃ q1 q2 q3 q4 q5 : Nat, fw_KQ D dA A [(h0, .inr (4, [.ref q1, .ref q2, .ref q3, .ref q4, .ref q5, .int 0, .int 0, .int 0, .int 0, .int 1, .int 0])), (q1, .inl (dA 0, 10, .inl (fun _ => 0))), (q2, .inl (dA 0, 10, .inl (fun _ => 0))), (q3, .inl (dA 0, 10, .inl (fun _ => 0))), (q4, .inl (dA 2, 176, .inr (.inl (fun _ => 0)))), (q5, .inl (dA 0, 1024, .inl (fun _ => 0)))] t) A) 5 1230 A := by
  refine Met.ofW (cc := prog_6_method_1_code) (maxL := 1) (ret := none) (by decide) rfl ?_
  intro p e s m args below meth c s₁ Bd hml hv
  obtain ⟨rfl, hA, hP, hK, hD, hC⟩ := hv
  have hx := Bd.exec
  have hb := Bd.bytes
  have hr := Bd.returns
  have hts0 := atoms_spec (ws := Cond.code Y_Press_init.1 Y_Press_init.2.1 Y_Press_init.2.2.1 Y_Press_init.2.2.2 :: fw_tb) Bd.pre
  have hts : ∀ w ∈ fw_tb, w.before ([.ref h0] : List Value).toArray s = true := fun w hw => hts0 w (List.mem_cons_of_mem _ hw)
  have hown : s.vm.findClass "FewTypes$Press" = some m.cls := findClass_of_methodNamed Bd.named
  have hlocks := Bd.notSynchronized
  have hin : meth.name = "<init>" := (name_of_methodNamed Bd.named Bd.method).1
  have hS : va_S A s.heap s.heap [] := va_S.rf
  have hl := lv_entry ([.ref h0]) (n := 1) (Nat.le_of_ble_eq_true rfl)
  rw [lg_entry_eq]
  generalize (lg_sl ([.ref h0]) ++ List.replicate (1 - (lg_sl ([.ref h0])).length) Slot.unset).toArray = ls at hl ⊢
  have hl : lv_has ls 1 [(0, .ref h0)] := hl
  refine lv_aload_n hx hb d_Press_init_0 rfl (lv_at hl 0 rfl) ?_
  refine W.objInit hx hb hown (hts _ ob_Press) (hts _ fw_oi1) (hts _ fw_oi2) rfl (by rw [hml]; exact hl.1) rfl d_Press_init_1 (Nat.le_of_ble_eq_true rfl) (Nat.le_of_ble_eq_true rfl) ?_
  refine W.eq (g2 := F0 m 4 ls []) rfl ?_
  refine lv_aload_n hx hb d_Press_init_4 rfl (lv_at hl 0 rfl) ?_
  refine lv_bipush (v := 10) hx hb d_Press_init_5 (by decide) ?_
  refine va_newa (D := D) (atype := .int) (a0 := (10, .inl (fun _ => 0))) hx hb (hts _ fw_ari) rfl hK hP hD hS hA (fun _ => rfl) (by decide) (N' := 10) (by decide) (by decide) (Nat.le_of_ble_eq_true rfl) (Nat.le_of_ble_eq_true rfl) d_Press_init_7 (fun q1 cA H hK1 hP hD hS => ?_)
  obtain rfl := fw_cA0 hK1
  clear hK1
  have hP : va_P D fw_cl [(h0, .inr (4, [.null, .null, .null, .null, .null, .int 0, .int 0, .int 0, .int 0, .int 0, .int 0])), (q1, .inl (dA 0, 10, .inl (fun _ => 0)))] H := hP
  have hD : va_D A [(h0, .inr (4, [.null, .null, .null, .null, .null, .int 0, .int 0, .int 0, .int 0, .int 0, .int 0])), (q1, .inl (dA 0, 10, .inl (fun _ => 0)))] := hD
  refine W.cs (cells' := 1) (slots' := 10) rfl rfl ?_
  refine va_putF (D := D) (ci := 4) (v := .ref q1) (ty := .array .int) (C := "FewTypes$Press") (T := fw_T4) (N := 11) hx hb hts fw_i4 fw_t4 fw_k4 fw_n4 hown hK hP hD hS 0 rfl rfl 0 (by decide) (hts _ ff_Press_9) (fun _ h9 => h9) rfl hin rfl (by decide +kernel) rfl rfl (Nat.le_of_ble_eq_true rfl) d_Press_init_9 (fun H locs hP hD hS => ?_)
  have hP : va_P D fw_cl [(h0, .inr (4, [.ref q1, .null, .null, .null, .null, .int 0, .int 0, .int 0, .int 0, .int 0, .int 0])), (q1, .inl (dA 0, 10, .inl (fun _ => 0)))] H := hP
  have hD : va_D A [(h0, .inr (4, [.ref q1, .null, .null, .null, .null, .int 0, .int 0, .int 0, .int 0, .int 0, .int 0])), (q1, .inl (dA 0, 10, .inl (fun _ => 0)))] := hD
  refine lv_aload_n hx hb d_Press_init_12 rfl (lv_at hl 0 rfl) ?_
  refine lv_bipush (v := 10) hx hb d_Press_init_13 (by decide) ?_
  refine va_newa (D := D) (atype := .int) (a0 := (10, .inl (fun _ => 0))) hx hb (hts _ fw_ari) rfl hK hP hD hS hA (fun _ => rfl) (by decide) (N' := 10) (by decide) (by decide) (Nat.le_of_ble_eq_true rfl) (Nat.le_of_ble_eq_true rfl) d_Press_init_15 (fun q2 cA H hK1 hP hD hS => ?_)
  obtain rfl := fw_cA0 hK1
  clear hK1
  have hP : va_P D fw_cl [(h0, .inr (4, [.ref q1, .null, .null, .null, .null, .int 0, .int 0, .int 0, .int 0, .int 0, .int 0])), (q1, .inl (dA 0, 10, .inl (fun _ => 0))), (q2, .inl (dA 0, 10, .inl (fun _ => 0)))] H := hP
  have hD : va_D A [(h0, .inr (4, [.ref q1, .null, .null, .null, .null, .int 0, .int 0, .int 0, .int 0, .int 0, .int 0])), (q1, .inl (dA 0, 10, .inl (fun _ => 0))), (q2, .inl (dA 0, 10, .inl (fun _ => 0)))] := hD
  refine W.cs (cells' := 2) (slots' := 20) rfl rfl ?_
  refine va_putF (D := D) (ci := 4) (v := .ref q2) (ty := .array .int) (C := "FewTypes$Press") (T := fw_T4) (N := 11) hx hb hts fw_i4 fw_t4 fw_k4 fw_n4 hown hK hP hD hS 0 rfl rfl 1 (by decide) (hts _ ff_Press_15) (fun _ h9 => h9) rfl hin rfl (by decide +kernel) rfl rfl (Nat.le_of_ble_eq_true rfl) d_Press_init_17 (fun H locs hP hD hS => ?_)
  have hP : va_P D fw_cl [(h0, .inr (4, [.ref q1, .ref q2, .null, .null, .null, .int 0, .int 0, .int 0, .int 0, .int 0, .int 0])), (q1, .inl (dA 0, 10, .inl (fun _ => 0))), (q2, .inl (dA 0, 10, .inl (fun _ => 0)))] H := hP
  have hD : va_D A [(h0, .inr (4, [.ref q1, .ref q2, .null, .null, .null, .int 0, .int 0, .int 0, .int 0, .int 0, .int 0])), (q1, .inl (dA 0, 10, .inl (fun _ => 0))), (q2, .inl (dA 0, 10, .inl (fun _ => 0)))] := hD
  refine lv_aload_n hx hb d_Press_init_20 rfl (lv_at hl 0 rfl) ?_
  refine lv_bipush (v := 10) hx hb d_Press_init_21 (by decide) ?_
  refine va_newa (D := D) (atype := .int) (a0 := (10, .inl (fun _ => 0))) hx hb (hts _ fw_ari) rfl hK hP hD hS hA (fun _ => rfl) (by decide) (N' := 10) (by decide) (by decide) (Nat.le_of_ble_eq_true rfl) (Nat.le_of_ble_eq_true rfl) d_Press_init_23 (fun q3 cA H hK1 hP hD hS => ?_)
  obtain rfl := fw_cA0 hK1
  clear hK1
  have hP : va_P D fw_cl [(h0, .inr (4, [.ref q1, .ref q2, .null, .null, .null, .int 0, .int 0, .int 0, .int 0, .int 0, .int 0])), (q1, .inl (dA 0, 10, .inl (fun _ => 0))), (q2, .inl (dA 0, 10, .inl (fun _ => 0))), (q3, .inl (dA 0, 10, .inl (fun _ => 0)))] H := hP
  have hD : va_D A [(h0, .inr (4, [.ref q1, .ref q2, .null, .null, .null, .int 0, .int 0, .int 0, .int 0, .int 0, .int 0])), (q1, .inl (dA 0, 10, .inl (fun _ => 0))), (q2, .inl (dA 0, 10, .inl (fun _ => 0))), (q3, .inl (dA 0, 10, .inl (fun _ => 0)))] := hD
  refine W.cs (cells' := 3) (slots' := 30) rfl rfl ?_
  refine va_putF (D := D) (ci := 4) (v := .ref q3) (ty := .array .int) (C := "FewTypes$Press") (T := fw_T4) (N := 11) hx hb hts fw_i4 fw_t4 fw_k4 fw_n4 hown hK hP hD hS 0 rfl rfl 2 (by decide) (hts _ ff_Press_18) (fun _ h9 => h9) rfl hin rfl (by decide +kernel) rfl rfl (Nat.le_of_ble_eq_true rfl) d_Press_init_25 (fun H locs hP hD hS => ?_)
  have hP : va_P D fw_cl [(h0, .inr (4, [.ref q1, .ref q2, .ref q3, .null, .null, .int 0, .int 0, .int 0, .int 0, .int 0, .int 0])), (q1, .inl (dA 0, 10, .inl (fun _ => 0))), (q2, .inl (dA 0, 10, .inl (fun _ => 0))), (q3, .inl (dA 0, 10, .inl (fun _ => 0)))] H := hP
  have hD : va_D A [(h0, .inr (4, [.ref q1, .ref q2, .ref q3, .null, .null, .int 0, .int 0, .int 0, .int 0, .int 0, .int 0])), (q1, .inl (dA 0, 10, .inl (fun _ => 0))), (q2, .inl (dA 0, 10, .inl (fun _ => 0))), (q3, .inl (dA 0, 10, .inl (fun _ => 0)))] := hD
  refine lv_aload_n hx hb d_Press_init_28 rfl (lv_at hl 0 rfl) ?_
  refine lv_sipush (v := 176) hx hb d_Press_init_29 (by decide) ?_
  refine va_newa (D := D) (atype := .long) (a0 := (176, .inr (.inl (fun _ => 0)))) hx hb (hts _ fw_arj) rfl hK hP hD hS hA (fun _ => rfl) (by decide) (N' := 176) (by decide) (by decide) (Nat.le_of_ble_eq_true rfl) (Nat.le_of_ble_eq_true rfl) d_Press_init_32 (fun q4 cA H hK1 hP hD hS => ?_)
  obtain rfl := fw_cA2 hK1
  clear hK1
  have hP : va_P D fw_cl [(h0, .inr (4, [.ref q1, .ref q2, .ref q3, .null, .null, .int 0, .int 0, .int 0, .int 0, .int 0, .int 0])), (q1, .inl (dA 0, 10, .inl (fun _ => 0))), (q2, .inl (dA 0, 10, .inl (fun _ => 0))), (q3, .inl (dA 0, 10, .inl (fun _ => 0))), (q4, .inl (dA 2, 176, .inr (.inl (fun _ => 0))))] H := hP
  have hD : va_D A [(h0, .inr (4, [.ref q1, .ref q2, .ref q3, .null, .null, .int 0, .int 0, .int 0, .int 0, .int 0, .int 0])), (q1, .inl (dA 0, 10, .inl (fun _ => 0))), (q2, .inl (dA 0, 10, .inl (fun _ => 0))), (q3, .inl (dA 0, 10, .inl (fun _ => 0))), (q4, .inl (dA 2, 176, .inr (.inl (fun _ => 0))))] := hD
  refine W.cs (cells' := 4) (slots' := 206) rfl rfl ?_
  refine va_putF (D := D) (ci := 4) (v := .ref q4) (ty := .array .long) (C := "FewTypes$Press") (T := fw_T4) (N := 11) hx hb hts fw_i4 fw_t4 fw_k4 fw_n4 hown hK hP hD hS 0 rfl rfl 3 (by decide) (hts _ ff_Press_21) (fun _ h9 => h9) rfl hin rfl (by decide +kernel) rfl rfl (Nat.le_of_ble_eq_true rfl) d_Press_init_34 (fun H locs hP hD hS => ?_)
  have hP : va_P D fw_cl [(h0, .inr (4, [.ref q1, .ref q2, .ref q3, .ref q4, .null, .int 0, .int 0, .int 0, .int 0, .int 0, .int 0])), (q1, .inl (dA 0, 10, .inl (fun _ => 0))), (q2, .inl (dA 0, 10, .inl (fun _ => 0))), (q3, .inl (dA 0, 10, .inl (fun _ => 0))), (q4, .inl (dA 2, 176, .inr (.inl (fun _ => 0))))] H := hP
  have hD : va_D A [(h0, .inr (4, [.ref q1, .ref q2, .ref q3, .ref q4, .null, .int 0, .int 0, .int 0, .int 0, .int 0, .int 0])), (q1, .inl (dA 0, 10, .inl (fun _ => 0))), (q2, .inl (dA 0, 10, .inl (fun _ => 0))), (q3, .inl (dA 0, 10, .inl (fun _ => 0))), (q4, .inl (dA 2, 176, .inr (.inl (fun _ => 0))))] := hD
  refine lv_aload_n hx hb d_Press_init_37 rfl (lv_at hl 0 rfl) ?_
  refine lv_sipush (v := 1024) hx hb d_Press_init_38 (by decide) ?_
  refine va_newa (D := D) (atype := .int) (a0 := (1024, .inl (fun _ => 0))) hx hb (hts _ fw_ari) rfl hK hP hD hS hA (fun _ => rfl) (by decide) (N' := 1024) (by decide) (by decide) (Nat.le_of_ble_eq_true rfl) (Nat.le_of_ble_eq_true rfl) d_Press_init_41 (fun q5 cA H hK1 hP hD hS => ?_)
  obtain rfl := fw_cA0 hK1
  clear hK1
  have hP : va_P D fw_cl [(h0, .inr (4, [.ref q1, .ref q2, .ref q3, .ref q4, .null, .int 0, .int 0, .int 0, .int 0, .int 0, .int 0])), (q1, .inl (dA 0, 10, .inl (fun _ => 0))), (q2, .inl (dA 0, 10, .inl (fun _ => 0))), (q3, .inl (dA 0, 10, .inl (fun _ => 0))), (q4, .inl (dA 2, 176, .inr (.inl (fun _ => 0)))), (q5, .inl (dA 0, 1024, .inl (fun _ => 0)))] H := hP
  have hD : va_D A [(h0, .inr (4, [.ref q1, .ref q2, .ref q3, .ref q4, .null, .int 0, .int 0, .int 0, .int 0, .int 0, .int 0])), (q1, .inl (dA 0, 10, .inl (fun _ => 0))), (q2, .inl (dA 0, 10, .inl (fun _ => 0))), (q3, .inl (dA 0, 10, .inl (fun _ => 0))), (q4, .inl (dA 2, 176, .inr (.inl (fun _ => 0)))), (q5, .inl (dA 0, 1024, .inl (fun _ => 0)))] := hD
  refine W.cs (cells' := 5) (slots' := 1230) rfl rfl ?_
  refine va_putF (D := D) (ci := 4) (v := .ref q5) (ty := .array .int) (C := "FewTypes$Press") (T := fw_T4) (N := 11) hx hb hts fw_i4 fw_t4 fw_k4 fw_n4 hown hK hP hD hS 0 rfl rfl 4 (by decide) (hts _ ff_Press_25) (fun _ h9 => h9) rfl hin rfl (by decide +kernel) rfl rfl (Nat.le_of_ble_eq_true rfl) d_Press_init_43 (fun H locs hP hD hS => ?_)
  have hP : va_P D fw_cl [(h0, .inr (4, [.ref q1, .ref q2, .ref q3, .ref q4, .ref q5, .int 0, .int 0, .int 0, .int 0, .int 0, .int 0])), (q1, .inl (dA 0, 10, .inl (fun _ => 0))), (q2, .inl (dA 0, 10, .inl (fun _ => 0))), (q3, .inl (dA 0, 10, .inl (fun _ => 0))), (q4, .inl (dA 2, 176, .inr (.inl (fun _ => 0)))), (q5, .inl (dA 0, 1024, .inl (fun _ => 0)))] H := hP
  have hD : va_D A [(h0, .inr (4, [.ref q1, .ref q2, .ref q3, .ref q4, .ref q5, .int 0, .int 0, .int 0, .int 0, .int 0, .int 0])), (q1, .inl (dA 0, 10, .inl (fun _ => 0))), (q2, .inl (dA 0, 10, .inl (fun _ => 0))), (q3, .inl (dA 0, 10, .inl (fun _ => 0))), (q4, .inl (dA 2, 176, .inr (.inl (fun _ => 0)))), (q5, .inl (dA 0, 1024, .inl (fun _ => 0)))] := hD
  refine lv_aload_n hx hb d_Press_init_46 rfl (lv_at hl 0 rfl) ?_
  refine lv_iconst (v := 0) hx hb d_Press_init_47 (by decide) ?_
  refine va_put (D := D) (ci := 4) (v := .int 0) (ty := .int) (C := "FewTypes$Press") (T := fw_T4) (N := 11) hx hb hts fw_i4 fw_t4 fw_k4 fw_n4 hown hK hP hD hS 0 rfl rfl 5 (by decide) (hts _ ff_Press_28) (fun _ h9 => h9) rfl (by decide +kernel) rfl rfl (Nat.le_of_ble_eq_true rfl) d_Press_init_48 (fun H locs hP hD hS => ?_)
  have hP : va_P D fw_cl [(h0, .inr (4, [.ref q1, .ref q2, .ref q3, .ref q4, .ref q5, .int 0, .int 0, .int 0, .int 0, .int 0, .int 0])), (q1, .inl (dA 0, 10, .inl (fun _ => 0))), (q2, .inl (dA 0, 10, .inl (fun _ => 0))), (q3, .inl (dA 0, 10, .inl (fun _ => 0))), (q4, .inl (dA 2, 176, .inr (.inl (fun _ => 0)))), (q5, .inl (dA 0, 1024, .inl (fun _ => 0)))] H := hP
  have hD : va_D A [(h0, .inr (4, [.ref q1, .ref q2, .ref q3, .ref q4, .ref q5, .int 0, .int 0, .int 0, .int 0, .int 0, .int 0])), (q1, .inl (dA 0, 10, .inl (fun _ => 0))), (q2, .inl (dA 0, 10, .inl (fun _ => 0))), (q3, .inl (dA 0, 10, .inl (fun _ => 0))), (q4, .inl (dA 2, 176, .inr (.inl (fun _ => 0)))), (q5, .inl (dA 0, 1024, .inl (fun _ => 0)))] := hD
  refine lv_aload_n hx hb d_Press_init_51 rfl (lv_at hl 0 rfl) ?_
  refine lv_iconst (v := 0) hx hb d_Press_init_52 (by decide) ?_
  refine va_put (D := D) (ci := 4) (v := .int 0) (ty := .int) (C := "FewTypes$Press") (T := fw_T4) (N := 11) hx hb hts fw_i4 fw_t4 fw_k4 fw_n4 hown hK hP hD hS 0 rfl rfl 6 (by decide) (hts _ ff_Press_32) (fun _ h9 => h9) rfl (by decide +kernel) rfl rfl (Nat.le_of_ble_eq_true rfl) d_Press_init_53 (fun H locs hP hD hS => ?_)
  have hP : va_P D fw_cl [(h0, .inr (4, [.ref q1, .ref q2, .ref q3, .ref q4, .ref q5, .int 0, .int 0, .int 0, .int 0, .int 0, .int 0])), (q1, .inl (dA 0, 10, .inl (fun _ => 0))), (q2, .inl (dA 0, 10, .inl (fun _ => 0))), (q3, .inl (dA 0, 10, .inl (fun _ => 0))), (q4, .inl (dA 2, 176, .inr (.inl (fun _ => 0)))), (q5, .inl (dA 0, 1024, .inl (fun _ => 0)))] H := hP
  have hD : va_D A [(h0, .inr (4, [.ref q1, .ref q2, .ref q3, .ref q4, .ref q5, .int 0, .int 0, .int 0, .int 0, .int 0, .int 0])), (q1, .inl (dA 0, 10, .inl (fun _ => 0))), (q2, .inl (dA 0, 10, .inl (fun _ => 0))), (q3, .inl (dA 0, 10, .inl (fun _ => 0))), (q4, .inl (dA 2, 176, .inr (.inl (fun _ => 0)))), (q5, .inl (dA 0, 1024, .inl (fun _ => 0)))] := hD
  refine lv_aload_n hx hb d_Press_init_56 rfl (lv_at hl 0 rfl) ?_
  refine lv_iconst (v := 0) hx hb d_Press_init_57 (by decide) ?_
  refine va_put (D := D) (ci := 4) (v := .int 0) (ty := .boolean) (C := "FewTypes$Press") (T := fw_T4) (N := 11) hx hb hts fw_i4 fw_t4 fw_k4 fw_n4 hown hK hP hD hS 0 rfl rfl 7 (by decide) (hts _ ff_Press_35) (fun _ h9 => h9) rfl (by decide +kernel) rfl rfl (Nat.le_of_ble_eq_true rfl) d_Press_init_58 (fun H locs hP hD hS => ?_)
  have hP : va_P D fw_cl [(h0, .inr (4, [.ref q1, .ref q2, .ref q3, .ref q4, .ref q5, .int 0, .int 0, .int 0, .int 0, .int 0, .int 0])), (q1, .inl (dA 0, 10, .inl (fun _ => 0))), (q2, .inl (dA 0, 10, .inl (fun _ => 0))), (q3, .inl (dA 0, 10, .inl (fun _ => 0))), (q4, .inl (dA 2, 176, .inr (.inl (fun _ => 0)))), (q5, .inl (dA 0, 1024, .inl (fun _ => 0)))] H := hP
  have hD : va_D A [(h0, .inr (4, [.ref q1, .ref q2, .ref q3, .ref q4, .ref q5, .int 0, .int 0, .int 0, .int 0, .int 0, .int 0])), (q1, .inl (dA 0, 10, .inl (fun _ => 0))), (q2, .inl (dA 0, 10, .inl (fun _ => 0))), (q3, .inl (dA 0, 10, .inl (fun _ => 0))), (q4, .inl (dA 2, 176, .inr (.inl (fun _ => 0)))), (q5, .inl (dA 0, 1024, .inl (fun _ => 0)))] := hD
  refine lv_aload_n hx hb d_Press_init_61 rfl (lv_at hl 0 rfl) ?_
  refine lv_iconst (v := 0) hx hb d_Press_init_62 (by decide) ?_
  refine va_put (D := D) (ci := 4) (v := .int 0) (ty := .int) (C := "FewTypes$Press") (T := fw_T4) (N := 11) hx hb hts fw_i4 fw_t4 fw_k4 fw_n4 hown hK hP hD hS 0 rfl rfl 8 (by decide) (hts _ ff_Press_39) (fun _ h9 => h9) rfl (by decide +kernel) rfl rfl (Nat.le_of_ble_eq_true rfl) d_Press_init_63 (fun H locs hP hD hS => ?_)
  have hP : va_P D fw_cl [(h0, .inr (4, [.ref q1, .ref q2, .ref q3, .ref q4, .ref q5, .int 0, .int 0, .int 0, .int 0, .int 0, .int 0])), (q1, .inl (dA 0, 10, .inl (fun _ => 0))), (q2, .inl (dA 0, 10, .inl (fun _ => 0))), (q3, .inl (dA 0, 10, .inl (fun _ => 0))), (q4, .inl (dA 2, 176, .inr (.inl (fun _ => 0)))), (q5, .inl (dA 0, 1024, .inl (fun _ => 0)))] H := hP
  have hD : va_D A [(h0, .inr (4, [.ref q1, .ref q2, .ref q3, .ref q4, .ref q5, .int 0, .int 0, .int 0, .int 0, .int 0, .int 0])), (q1, .inl (dA 0, 10, .inl (fun _ => 0))), (q2, .inl (dA 0, 10, .inl (fun _ => 0))), (q3, .inl (dA 0, 10, .inl (fun _ => 0))), (q4, .inl (dA 2, 176, .inr (.inl (fun _ => 0)))), (q5, .inl (dA 0, 1024, .inl (fun _ => 0)))] := hD
  refine lv_aload_n hx hb d_Press_init_66 rfl (lv_at hl 0 rfl) ?_
  refine lv_iconst (v := 1) hx hb d_Press_init_67 (by decide) ?_
  refine va_put (D := D) (ci := 4) (v := .int 1) (ty := .int) (C := "FewTypes$Press") (T := fw_T4) (N := 11) hx hb hts fw_i4 fw_t4 fw_k4 fw_n4 hown hK hP hD hS 0 rfl rfl 9 (by decide) (hts _ ff_Press_42) (fun _ h9 => h9) rfl (by decide +kernel) rfl rfl (Nat.le_of_ble_eq_true rfl) d_Press_init_68 (fun H locs hP hD hS => ?_)
  have hP : va_P D fw_cl [(h0, .inr (4, [.ref q1, .ref q2, .ref q3, .ref q4, .ref q5, .int 0, .int 0, .int 0, .int 0, .int 1, .int 0])), (q1, .inl (dA 0, 10, .inl (fun _ => 0))), (q2, .inl (dA 0, 10, .inl (fun _ => 0))), (q3, .inl (dA 0, 10, .inl (fun _ => 0))), (q4, .inl (dA 2, 176, .inr (.inl (fun _ => 0)))), (q5, .inl (dA 0, 1024, .inl (fun _ => 0)))] H := hP
  have hD : va_D A [(h0, .inr (4, [.ref q1, .ref q2, .ref q3, .ref q4, .ref q5, .int 0, .int 0, .int 0, .int 0, .int 1, .int 0])), (q1, .inl (dA 0, 10, .inl (fun _ => 0))), (q2, .inl (dA 0, 10, .inl (fun _ => 0))), (q3, .inl (dA 0, 10, .inl (fun _ => 0))), (q4, .inl (dA 2, 176, .inr (.inl (fun _ => 0)))), (q5, .inl (dA 0, 1024, .inl (fun _ => 0)))] := hD
  refine lv_aload_n hx hb d_Press_init_71 rfl (lv_at hl 0 rfl) ?_
  refine lv_iconst (v := 0) hx hb d_Press_init_72 (by decide) ?_
  refine va_put (D := D) (ci := 4) (v := .int 0) (ty := .int) (C := "FewTypes$Press") (T := fw_T4) (N := 11) hx hb hts fw_i4 fw_t4 fw_k4 fw_n4 hown hK hP hD hS 0 rfl rfl 10 (by decide) (hts _ ff_Press_45) (fun _ h9 => h9) rfl (by decide +kernel) rfl rfl (Nat.le_of_ble_eq_true rfl) d_Press_init_73 (fun H locs hP hD hS => ?_)
  have hP : va_P D fw_cl [(h0, .inr (4, [.ref q1, .ref q2, .ref q3, .ref q4, .ref q5, .int 0, .int 0, .int 0, .int 0, .int 1, .int 0])), (q1, .inl (dA 0, 10, .inl (fun _ => 0))), (q2, .inl (dA 0, 10, .inl (fun _ => 0))), (q3, .inl (dA 0, 10, .inl (fun _ => 0))), (q4, .inl (dA 2, 176, .inr (.inl (fun _ => 0)))), (q5, .inl (dA 0, 1024, .inl (fun _ => 0)))] H := hP
  have hD : va_D A [(h0, .inr (4, [.ref q1, .ref q2, .ref q3, .ref q4, .ref q5, .int 0, .int 0, .int 0, .int 0, .int 1, .int 0])), (q1, .inl (dA 0, 10, .inl (fun _ => 0))), (q2, .inl (dA 0, 10, .inl (fun _ => 0))), (q3, .inl (dA 0, 10, .inl (fun _ => 0))), (q4, .inl (dA 2, 176, .inr (.inl (fun _ => 0)))), (q5, .inl (dA 0, 1024, .inl (fun _ => 0)))] := hD
  have hP9 := hP.sub (ws' := [(h0, .inr (4, [.ref q1, .ref q2, .ref q3, .ref q4, .ref q5, .int 0, .int 0, .int 0, .int 0, .int 1, .int 0])), (q1, .inl (dA 0, 10, .inl (fun _ => 0))), (q2, .inl (dA 0, 10, .inl (fun _ => 0))), (q3, .inl (dA 0, 10, .inl (fun _ => 0))), (q4, .inl (dA 2, 176, .inr (.inl (fun _ => 0)))), (q5, .inl (dA 0, 1024, .inl (fun _ => 0)))]) [0, 1, 2, 3, 4, 5] rfl
  have hD9 := hD.sub (ws' := [(h0, .inr (4, [.ref q1, .ref q2, .ref q3, .ref q4, .ref q5, .int 0, .int 0, .int 0, .int 0, .int 1, .int 0])), (q1, .inl (dA 0, 10, .inl (fun _ => 0))), (q2, .inl (dA 0, 10, .inl (fun _ => 0))), (q3, .inl (dA 0, 10, .inl (fun _ => 0))), (q4, .inl (dA 2, 176, .inr (.inl (fun _ => 0)))), (q5, .inl (dA 0, 1024, .inl (fun _ => 0)))]) [0, 1, 2, 3, 4, 5] (by decide) rfl
  exact W.vret hx hb hr (fun t ht hW => ⟨⟨(), rfl, trivial, q1, q2, q3, q4, q5, by rw [ht]; exact hP9, va_K.moved hW.alike hK, hD9⟩, hS.F ht⟩) hS.2.2 d_Press_init_76 hlocks
theorem d_Orders_init_0 : decode prog_5_method_1_code 0 = .ok (.aload_n 0, 1) := by decide +kernel
theorem d_Orders_init_1 : decode prog_5_method_1_code 1 = .ok (.invokespecial 3, 3) := by decide +kernel
theorem d_Orders_init_4 : decode prog_5_method_1_code 4 = .ok (.aload_n 0, 1) := by decide +kernel
theorem d_Orders_init_5 : decode prog_5_method_1_code 5 = .ok (.sipush 216, 3) := by decide +kernel
theorem d_Orders_init_8 : decode prog_5_method_1_code 8 = .ok (.newarray .int, 2) := by decide +kernel
theorem d_Orders_init_10 : decode prog_5_method_1_code 10 = .ok (.putfield 9, 3) := by decide +kernel
theorem d_Orders_init_13 : decode prog_5_method_1_code 13 = .ok (.aload_n 0, 1) := by decide +kernel
theorem d_Orders_init_14 : decode prog_5_method_1_code 14 = .ok (.bipush 6, 2) := by decide +kernel
theorem d_Orders_init_16 : decode prog_5_method_1_code 16 = .ok (.newarray .int, 2) := by decide +kernel
theorem d_Orders_init_18 : decode prog_5_method_1_code 18 = .ok (.putfield 15, 3) := by decide +kernel
theorem d_Orders_init_21 : decode prog_5_method_1_code 21 = .ok (.aload_n 0, 1) := by decide +kernel
theorem d_Orders_init_22 : decode prog_5_method_1_code 22 = .ok (.bipush 6, 2) := by decide +kernel
theorem d_Orders_init_24 : decode prog_5_method_1_code 24 = .ok (.newarray .int, 2) := by decide +kernel
theorem d_Orders_init_26 : decode prog_5_method_1_code 26 = .ok (.putfield 18, 3) := by decide +kernel
theorem d_Orders_init_29 : decode prog_5_method_1_code 29 = .ok (.aload_n 0, 1) := by decide +kernel
theorem d_Orders_init_30 : decode prog_5_method_1_code 30 = .ok (.iconst 0, 1) := by decide +kernel
theorem d_Orders_init_31 : decode prog_5_method_1_code 31 = .ok (.putfield 21, 3) := by decide +kernel
theorem d_Orders_init_34 : decode prog_5_method_1_code 34 = .ok (.aload_n 0, 1) := by decide +kernel
theorem d_Orders_init_35 : decode prog_5_method_1_code 35 = .ok (.iconst 0, 1) := by decide +kernel
theorem d_Orders_init_36 : decode prog_5_method_1_code 36 = .ok (.putfield 25, 3) := by decide +kernel
theorem d_Orders_init_39 : decode prog_5_method_1_code 39 = .ok (.return_, 1) := by decide +kernel
abbrev Y_Orders_init : fw_Y := (⟨"FewTypes$Orders", "<init>", "()V"⟩, prog_5_method_1_code, 1, none)
theorem ob_Orders : Cond.methodLink "FewTypes$Orders" 3 objectInit ∈ fw_tb := fw_m 266 (by decide +kernel) (by decide +kernel)
theorem ff_Orders_9 : Cond.fieldLink "FewTypes$Orders" 9 "FewTypes$Orders" "clashes" "[I" ∈ fw_tb := fw_m 267 (by decide +kernel) (by decide +kernel)
theorem ff_Orders_15 : Cond.fieldLink "FewTypes$Orders" 15 "FewTypes$Orders" "tried" "[I" ∈ fw_tb := fw_m 268 (by decide +kernel) (by decide +kernel)
theorem ff_Orders_18 : Cond.fieldLink "FewTypes$Orders" 18 "FewTypes$Orders" "best" "[I" ∈ fw_tb := fw_m 269 (by decide +kernel) (by decide +kernel)
theorem ff_Orders_21 : Cond.fieldLink "FewTypes$Orders" 21 "FewTypes$Orders" "pulls" "I" ∈ fw_tb := fw_m 271 (by decide +kernel) (by decide +kernel)
theorem ff_Orders_25 : Cond.fieldLink "FewTypes$Orders" 25 "FewTypes$Orders" "fewestClashes" "I" ∈ fw_tb := fw_m 272 (by decide +kernel) (by decide +kernel)
set_option maxHeartbeats 8000000 in
set_option maxRecDepth 100000 in
theorem k_Orders (l : Launch) (D : va_G) (dA : Nat → ClassId) (ad : Nat → Nat) (A : Nat → Prop) (h0 : Nat) : Met l Y_Orders_init.1 (Cond.code Y_Orders_init.1 Y_Orders_init.2.1 Y_Orders_init.2.2.1 Y_Orders_init.2.2.2 :: fw_tb) ({ frames := 1, cells := 3, slots := 228, locals := 40 }) (va_Pc [.ref h0] (fw_KP D dA ad A [(h0, .inr (3, [.null, .null, .null, .int 0, .int 0]))])) (va_Qv (fun (_ : Unit) => True) (fun _ t => ∃ q1 q2 q3 : Nat, fw_KQ D dA A [(h0, .inr (3, [.ref q1, .ref q2, .ref q3, .int 0, .int 0])), (q1, .inl (dA 0, 216, .inl (fun _ => 0))), (q2, .inl (dA 0, 6, .inl (fun _ => 0))), (q3, .inl (dA 0, 6, .inl (fun _ => 0)))] t) A) 3 228 A := by
  refine Met.ofW (cc := prog_5_method_1_code) (maxL := 1) (ret := none) (by decide) rfl ?_
  intro p e s m args below meth c s₁ Bd hml hv
  obtain ⟨rfl, hA, hP, hK, hD, hC⟩ := hv
  have hx := Bd.exec
  have hb := Bd.bytes
  have hr := Bd.returns
  have hts0 := atoms_spec (ws := Cond.code Y_Orders_init.1 Y_Orders_init.2.1 Y_Orders_init.2.2.1 Y_Orders_init.2.2.2 :: fw_tb) Bd.pre
  have hts : ∀ w ∈ fw_tb, w.before ([.ref h0] : List Value).toArray s = true := fun w hw => hts0 w (List.mem_cons_of_mem _ hw)
  have hown : s.vm.findClass "FewTypes$Orders" = some m.cls := findClass_of_methodNamed Bd.named
  have hlocks := Bd.notSynchronized
  have hin : meth.name = "<init>" := (name_of_methodNamed Bd.named Bd.method).1
  have hS : va_S A s.heap s.heap [] := va_S.rf
  have hl := lv_entry ([.ref h0]) (n := 1) (Nat.le_of_ble_eq_true rfl)
  rw [lg_entry_eq]
  generalize (lg_sl ([.ref h0]) ++ List.replicate (1 - (lg_sl ([.ref h0])).length) Slot.unset).toArray = ls at hl ⊢
  have hl : lv_has ls 1 [(0, .ref h0)] := hl
  refine lv_aload_n hx hb d_Orders_init_0 rfl (lv_at hl 0 rfl) ?_
  refine W.objInit hx hb hown (hts _ ob_Orders) (hts _ fw_oi1) (hts _ fw_oi2) rfl (by rw [hml]; exact hl.1) rfl d_Orders_init_1 (Nat.le_of_ble_eq_true rfl) (Nat.le_of_ble_eq_true rfl) ?_
  refine W.eq (g2 := F0 m 4 ls []) rfl ?_
  refine lv_aload_n hx hb d_Orders_init_4 rfl (lv_at hl 0 rfl) ?_
  refine lv_sipush (v := 216) hx hb d_Orders_init_5 (by decide) ?_
  refine va_newa (D := D) (atype := .int) (a0 := (216, .inl (fun _ => 0))) hx hb (hts _ fw_ari) rfl hK hP hD hS hA (fun _ => rfl) (by decide) (N' := 216) (by decide) (by decide) (Nat.le_of_ble_eq_true rfl) (Nat.le_of_ble_eq_true rfl) d_Orders_init_8 (fun q1 cA H hK1 hP hD hS => ?_)
  obtain rfl := fw_cA0 hK1
  clear hK1
  have hP : va_P D fw_cl [(h0, .inr (3, [.null, .null, .null, .int 0, .int 0])), (q1, .inl (dA 0, 216, .inl (fun _ => 0)))] H := hP
  have hD : va_D A [(h0, .inr (3, [.null, .null, .null, .int 0, .int 0])), (q1, .inl (dA 0, 216, .inl (fun _ => 0)))] := hD
  refine W.cs (cells' := 1) (slots' := 216) rfl rfl ?_
  refine va_putF (D := D) (ci := 3) (v := .ref q1) (ty := .array .int) (C := "FewTypes$Orders") (T := fw_T3) (N := 5) hx hb hts fw_i3 fw_t3 fw_k3 fw_n3 hown hK hP hD hS 0 rfl rfl 0 (by decide) (hts _ ff_Orders_9) (fun _ h9 => h9) rfl hin rfl (by decide +kernel) rfl rfl (Nat.le_of_ble_eq_true rfl) d_Orders_init_10 (fun H locs hP hD hS => ?_)
  have hP : va_P D fw_cl [(h0, .inr (3, [.ref q1, .null, .null, .int 0, .int 0])), (q1, .inl (dA 0, 216, .inl (fun _ => 0)))] H := hP
  have hD : va_D A [(h0, .inr (3, [.ref q1, .null, .null, .int 0, .int 0])), (q1, .inl (dA 0, 216, .inl (fun _ => 0)))] := hD
  refine lv_aload_n hx hb d_Orders_init_13 rfl (lv_at hl 0 rfl) ?_
  refine lv_bipush (v := 6) hx hb d_Orders_init_14 (by decide) ?_
  refine va_newa (D := D) (atype := .int) (a0 := (6, .inl (fun _ => 0))) hx hb (hts _ fw_ari) rfl hK hP hD hS hA (fun _ => rfl) (by decide) (N' := 6) (by decide) (by decide) (Nat.le_of_ble_eq_true rfl) (Nat.le_of_ble_eq_true rfl) d_Orders_init_16 (fun q2 cA H hK1 hP hD hS => ?_)
  obtain rfl := fw_cA0 hK1
  clear hK1
  have hP : va_P D fw_cl [(h0, .inr (3, [.ref q1, .null, .null, .int 0, .int 0])), (q1, .inl (dA 0, 216, .inl (fun _ => 0))), (q2, .inl (dA 0, 6, .inl (fun _ => 0)))] H := hP
  have hD : va_D A [(h0, .inr (3, [.ref q1, .null, .null, .int 0, .int 0])), (q1, .inl (dA 0, 216, .inl (fun _ => 0))), (q2, .inl (dA 0, 6, .inl (fun _ => 0)))] := hD
  refine W.cs (cells' := 2) (slots' := 222) rfl rfl ?_
  refine va_putF (D := D) (ci := 3) (v := .ref q2) (ty := .array .int) (C := "FewTypes$Orders") (T := fw_T3) (N := 5) hx hb hts fw_i3 fw_t3 fw_k3 fw_n3 hown hK hP hD hS 0 rfl rfl 1 (by decide) (hts _ ff_Orders_15) (fun _ h9 => h9) rfl hin rfl (by decide +kernel) rfl rfl (Nat.le_of_ble_eq_true rfl) d_Orders_init_18 (fun H locs hP hD hS => ?_)
  have hP : va_P D fw_cl [(h0, .inr (3, [.ref q1, .ref q2, .null, .int 0, .int 0])), (q1, .inl (dA 0, 216, .inl (fun _ => 0))), (q2, .inl (dA 0, 6, .inl (fun _ => 0)))] H := hP
  have hD : va_D A [(h0, .inr (3, [.ref q1, .ref q2, .null, .int 0, .int 0])), (q1, .inl (dA 0, 216, .inl (fun _ => 0))), (q2, .inl (dA 0, 6, .inl (fun _ => 0)))] := hD
  refine lv_aload_n hx hb d_Orders_init_21 rfl (lv_at hl 0 rfl) ?_
  refine lv_bipush (v := 6) hx hb d_Orders_init_22 (by decide) ?_
  refine va_newa (D := D) (atype := .int) (a0 := (6, .inl (fun _ => 0))) hx hb (hts _ fw_ari) rfl hK hP hD hS hA (fun _ => rfl) (by decide) (N' := 6) (by decide) (by decide) (Nat.le_of_ble_eq_true rfl) (Nat.le_of_ble_eq_true rfl) d_Orders_init_24 (fun q3 cA H hK1 hP hD hS => ?_)
  obtain rfl := fw_cA0 hK1
  clear hK1
  have hP : va_P D fw_cl [(h0, .inr (3, [.ref q1, .ref q2, .null, .int 0, .int 0])), (q1, .inl (dA 0, 216, .inl (fun _ => 0))), (q2, .inl (dA 0, 6, .inl (fun _ => 0))), (q3, .inl (dA 0, 6, .inl (fun _ => 0)))] H := hP
  have hD : va_D A [(h0, .inr (3, [.ref q1, .ref q2, .null, .int 0, .int 0])), (q1, .inl (dA 0, 216, .inl (fun _ => 0))), (q2, .inl (dA 0, 6, .inl (fun _ => 0))), (q3, .inl (dA 0, 6, .inl (fun _ => 0)))] := hD
  refine W.cs (cells' := 3) (slots' := 228) rfl rfl ?_
  refine va_putF (D := D) (ci := 3) (v := .ref q3) (ty := .array .int) (C := "FewTypes$Orders") (T := fw_T3) (N := 5) hx hb hts fw_i3 fw_t3 fw_k3 fw_n3 hown hK hP hD hS 0 rfl rfl 2 (by decide) (hts _ ff_Orders_18) (fun _ h9 => h9) rfl hin rfl (by decide +kernel) rfl rfl (Nat.le_of_ble_eq_true rfl) d_Orders_init_26 (fun H locs hP hD hS => ?_)
  have hP : va_P D fw_cl [(h0, .inr (3, [.ref q1, .ref q2, .ref q3, .int 0, .int 0])), (q1, .inl (dA 0, 216, .inl (fun _ => 0))), (q2, .inl (dA 0, 6, .inl (fun _ => 0))), (q3, .inl (dA 0, 6, .inl (fun _ => 0)))] H := hP
  have hD : va_D A [(h0, .inr (3, [.ref q1, .ref q2, .ref q3, .int 0, .int 0])), (q1, .inl (dA 0, 216, .inl (fun _ => 0))), (q2, .inl (dA 0, 6, .inl (fun _ => 0))), (q3, .inl (dA 0, 6, .inl (fun _ => 0)))] := hD
  refine lv_aload_n hx hb d_Orders_init_29 rfl (lv_at hl 0 rfl) ?_
  refine lv_iconst (v := 0) hx hb d_Orders_init_30 (by decide) ?_
  refine va_put (D := D) (ci := 3) (v := .int 0) (ty := .int) (C := "FewTypes$Orders") (T := fw_T3) (N := 5) hx hb hts fw_i3 fw_t3 fw_k3 fw_n3 hown hK hP hD hS 0 rfl rfl 3 (by decide) (hts _ ff_Orders_21) (fun _ h9 => h9) rfl (by decide +kernel) rfl rfl (Nat.le_of_ble_eq_true rfl) d_Orders_init_31 (fun H locs hP hD hS => ?_)
  have hP : va_P D fw_cl [(h0, .inr (3, [.ref q1, .ref q2, .ref q3, .int 0, .int 0])), (q1, .inl (dA 0, 216, .inl (fun _ => 0))), (q2, .inl (dA 0, 6, .inl (fun _ => 0))), (q3, .inl (dA 0, 6, .inl (fun _ => 0)))] H := hP
  have hD : va_D A [(h0, .inr (3, [.ref q1, .ref q2, .ref q3, .int 0, .int 0])), (q1, .inl (dA 0, 216, .inl (fun _ => 0))), (q2, .inl (dA 0, 6, .inl (fun _ => 0))), (q3, .inl (dA 0, 6, .inl (fun _ => 0)))] := hD
  refine lv_aload_n hx hb d_Orders_init_34 rfl (lv_at hl 0 rfl) ?_
  refine lv_iconst (v := 0) hx hb d_Orders_init_35 (by decide) ?_
  refine va_put (D := D) (ci := 3) (v := .int 0) (ty := .int) (C := "FewTypes$Orders") (T := fw_T3) (N := 5) hx hb hts fw_i3 fw_t3 fw_k3 fw_n3 hown hK hP hD hS 0 rfl rfl 4 (by decide) (hts _ ff_Orders_25) (fun _ h9 => h9) rfl (by decide +kernel) rfl rfl (Nat.le_of_ble_eq_true rfl) d_Orders_init_36 (fun H locs hP hD hS => ?_)
  have hP : va_P D fw_cl [(h0, .inr (3, [.ref q1, .ref q2, .ref q3, .int 0, .int 0])), (q1, .inl (dA 0, 216, .inl (fun _ => 0))), (q2, .inl (dA 0, 6, .inl (fun _ => 0))), (q3, .inl (dA 0, 6, .inl (fun _ => 0)))] H := hP
  have hD : va_D A [(h0, .inr (3, [.ref q1, .ref q2, .ref q3, .int 0, .int 0])), (q1, .inl (dA 0, 216, .inl (fun _ => 0))), (q2, .inl (dA 0, 6, .inl (fun _ => 0))), (q3, .inl (dA 0, 6, .inl (fun _ => 0)))] := hD
  have hP9 := hP.sub (ws' := [(h0, .inr (3, [.ref q1, .ref q2, .ref q3, .int 0, .int 0])), (q1, .inl (dA 0, 216, .inl (fun _ => 0))), (q2, .inl (dA 0, 6, .inl (fun _ => 0))), (q3, .inl (dA 0, 6, .inl (fun _ => 0)))]) [0, 1, 2, 3] rfl
  have hD9 := hD.sub (ws' := [(h0, .inr (3, [.ref q1, .ref q2, .ref q3, .int 0, .int 0])), (q1, .inl (dA 0, 216, .inl (fun _ => 0))), (q2, .inl (dA 0, 6, .inl (fun _ => 0))), (q3, .inl (dA 0, 6, .inl (fun _ => 0)))]) [0, 1, 2, 3] (by decide) rfl
  exact W.vret hx hb hr (fun t ht hW => ⟨⟨(), rfl, trivial, q1, q2, q3, by rw [ht]; exact hP9, va_K.moved hW.alike hK, hD9⟩, hS.F ht⟩) hS.2.2 d_Orders_init_39 hlocks
