
/-! THE LAW: its state is the script, i, and the two memories -/
def fw_la (ad ad2 : Nat → Nat) (b : Nat) : Nat → Nat := fun k => match k with | 0 => ad 0 | 1 => ad2 0 | _ => b
def fw_LC (p : Program) (s : State) (m : MethodId) (meth : Method) (c : Code) (b L : Nat) (xs : Nat → Int32) (D : va_G) (dA : Nat → ClassId) (ad ad2 : Nat → Nat) : Prop :=
  (p.tables.exec = Jvm.exec ∧ c.code = code ∧ c.maxLocals = 4 ∧ s.vm.findClass "FewTypesLaw" = some m.cls ∧ ∀ w ∈ fw_tb, w.before #[Value.ref b] s = true) ∧ (meth.sig.returnType = ret ∧ meth.locks = false) ∧ (va_X b L xs s s.heap ∧ b < s.heap.size) ∧ va_K D fw_cl (fw_ty dA) s ∧
  (fw_St ad (fun q => s.heap.size ≤ q) s s.heap ∧ fw_St ad2 (fun q => s.heap.size ≤ q) s s.heap ∧ fw_Ne s) ∧ (∀ k, k < 94 → s.heap.size ≤ ad k) ∧ (∀ k, k < 28 → s.heap.size ≤ ad2 k) ∧ (∀ i j, i < 94 → j < 28 → ad i ≠ ad2 j)
def fw_L (L : Nat) (xs : Nat → Int32) (pc : Nat) (lv : List (Nat × Value)) (st : List Value) (μx μm : fw_M) : Prop :=
  ∀ ⦃p : Program⦄ ⦃l : Launch⦄ ⦃e : Env⦄ ⦃s : State⦄ ⦃m : MethodId⦄ ⦃below : List Frame⦄ ⦃meth : Method⦄ ⦃c : Code⦄ ⦃b : Nat⦄ ⦃D : va_G⦄ ⦃dA : Nat → ClassId⦄ ⦃ad ad2 : Nat → Nat⦄ ⦃H : Heap⦄ ⦃locs : List Loc⦄ ⦃ls : Array Slot⦄,
    fw_LC p s m meth c b L xs D dA ad ad2 → lv_has ls 4 (lv.map (fw_g (fw_la ad ad2 b))) → (va_P D fw_cl (fw_w fw_X ad dA μx) H ∧ va_P D fw_cl (fw_w fw_Mo ad2 dA μm) H) → (va_D (fun q => s.heap.size ≤ q) (fw_w fw_X ad dA μx) ∧ va_D (fun q => s.heap.size ≤ q) (fw_w fw_Mo ad2 dA μm)) → va_S (fun q => s.heap.size ≤ q) s.heap H locs →
    W p l e room_1 s m #[Value.ref b] below meth c H locs 600000 7302250 (lw_Z below #[Value.ref b] s) (F0 m pc ls (st.map (fw_v (fw_la ad ad2 b))))
section FWL
variable {L : Nat} {xs : Nat → Int32} {pc : Nat} {lv : List (Nat × Value)} {st : List Value} {μx μm : fw_M}

theorem wl_iconst {n : Int} {v : Int32} (hd : decode code pc = .ok (.iconst n, 1)) (hv : Int32.ofInt n = v) (k : fw_L L xs (pc + 1) lv (.int v :: st) μx μm) : fw_L L xs pc lv (st) μx μm := fun _ _ _ _ _ _ _ _ _ _ _ _ _ _ _ _ C hl hP hD hS => lv_iconst C.1.1 C.1.2.1 hd hv (k C hl hP hD hS)
theorem wl_bipush {n : Int} {v : Int32} (hd : decode code pc = .ok (.bipush n, 2)) (hv : (Int8.ofInt n).toInt32 = v) (k : fw_L L xs (pc + 2) lv (.int v :: st) μx μm) : fw_L L xs pc lv (st) μx μm := fun _ _ _ _ _ _ _ _ _ _ _ _ _ _ _ _ C hl hP hD hS => lv_bipush C.1.1 C.1.2.1 hd hv (k C hl hP hD hS)
theorem wl_ldc2 {index : Nat} {v : Int64} (hd : decode code pc = .ok (.ldc2_w index, 3)) (hw : Cond.constantLong "FewTypesLaw" index v ∈ fw_tb) (k : fw_L L xs (pc + 3) lv (.long v :: st) μx μm) : fw_L L xs pc lv (st) μx μm := fun _ _ _ _ _ _ _ _ _ _ _ _ _ _ _ _ C hl hP hD hS => lv_ldc2 C.1.1 C.1.2.1 C.1.2.2.2.1 (C.1.2.2.2.2 _ hw) hd (k C hl hP hD hS)
theorem wl_iload_n {k : Fin 4} {i : Nat} {x : Int32} (hd : decode code pc = .ok (.iload_n k, 1)) (j : Nat) (hi : (k : Nat) = i) (h : lv[j]? = some (i, .int x)) (k : fw_L L xs (pc + 1) lv (.int x :: st) μx μm) : fw_L L xs pc lv (st) μx μm := fun _ _ _ _ _ _ _ _ _ _ _ _ _ _ _ _ C hl hP hD hS => lv_iload_n C.1.1 C.1.2.1 hd hi (fw_lat hl j h) (k C hl hP hD hS)
theorem wl_aload_n {k : Fin 4} {i : Nat} {x : Nat} (hd : decode code pc = .ok (.aload_n k, 1)) (j : Nat) (hi : (k : Nat) = i) (h : lv[j]? = some (i, .ref x)) (k : fw_L L xs (pc + 1) lv (.ref x :: st) μx μm) : fw_L L xs pc lv (st) μx μm := fun _ _ _ _ _ _ _ _ _ _ _ _ _ _ _ _ C hl hP hD hS => lv_aload_n C.1.1 C.1.2.1 hd hi (fw_lat hl j h) (k C hl hP hD hS)
theorem wl_iadd {x y : Int32} (hd : decode code pc = .ok (.iadd, 1))  (k : fw_L L xs (pc + 1) lv (.int (x + y) :: st) μx μm) : fw_L L xs pc lv (.int y :: .int x :: st) μx μm := fun _ _ _ _ _ _ _ _ _ _ _ _ _ _ _ _ C hl hP hD hS => lv_iadd C.1.1 C.1.2.1 hd (k C hl hP hD hS)
theorem wl_isub {x y : Int32} (hd : decode code pc = .ok (.isub, 1))  (k : fw_L L xs (pc + 1) lv (.int (x - y) :: st) μx μm) : fw_L L xs pc lv (.int y :: .int x :: st) μx μm := fun _ _ _ _ _ _ _ _ _ _ _ _ _ _ _ _ C hl hP hD hS => lv_isub C.1.1 C.1.2.1 hd (k C hl hP hD hS)
theorem wl_iand {x y : Int32} (hd : decode code pc = .ok (.iand, 1))  (k : fw_L L xs (pc + 1) lv (.int (x &&& y) :: st) μx μm) : fw_L L xs pc lv (.int y :: .int x :: st) μx μm := fun _ _ _ _ _ _ _ _ _ _ _ _ _ _ _ _ C hl hP hD hS => lv_iand C.1.1 C.1.2.1 hd (k C hl hP hD hS)
theorem wl_i2l {x : Int32} (hd : decode code pc = .ok (.i2l, 1))  (k : fw_L L xs (pc + 1) lv (.long x.toInt64 :: st) μx μm) : fw_L L xs pc lv (.int x :: st) μx μm := fun _ _ _ _ _ _ _ _ _ _ _ _ _ _ _ _ C hl hP hD hS => lv_i2l C.1.1 C.1.2.1 hd rfl (k C hl hP hD hS)
theorem wl_lshl {x : Int64} {y : Int32} (hd : decode code pc = .ok (.lshl, 1))  (k : fw_L L xs (pc + 1) lv (.long (x <<< (y.toInt64 &&& 63)) :: st) μx μm) : fw_L L xs pc lv (.int y :: .long x :: st) μx μm := fun _ _ _ _ _ _ _ _ _ _ _ _ _ _ _ _ C hl hP hD hS => lv_lshl C.1.1 C.1.2.1 hd rfl (k C hl hP hD hS)
theorem wl_land {x y : Int64} (hd : decode code pc = .ok (.land, 1))  (k : fw_L L xs (pc + 1) lv (.long (x &&& y) :: st) μx μm) : fw_L L xs pc lv (.long y :: .long x :: st) μx μm := fun _ _ _ _ _ _ _ _ _ _ _ _ _ _ _ _ C hl hP hD hS => lv_land C.1.1 C.1.2.1 hd (k C hl hP hD hS)
theorem wl_lor {x y : Int64} (hd : decode code pc = .ok (.lor, 1))  (k : fw_L L xs (pc + 1) lv (.long (x ||| y) :: st) μx μm) : fw_L L xs pc lv (.long y :: .long x :: st) μx μm := fun _ _ _ _ _ _ _ _ _ _ _ _ _ _ _ _ C hl hP hD hS => lv_lor C.1.1 C.1.2.1 hd (k C hl hP hD hS)
theorem wl_sld {i : Int32} (hd : decode code pc = .ok (.iaload, 1)) (hin : vp_in i L) (k : fw_L L xs (pc + 1) lv (.int (xs i.toNatClampNeg) :: st) μx μm) : fw_L L xs pc lv (.int i :: .ref 2 :: st) μx μm := fun _ _ _ _ _ _ _ _ _ _ _ _ _ _ _ _ C hl hP hD hS => va_sld C.1.1 C.1.2.1 C.2.2.1.1 C.2.2.1.2 (Nat.not_le_of_lt C.2.2.1.2) hS hin hd (k C hl hP hD hS)
theorem wl_slen (hd : decode code pc = .ok (.arraylength, 1)) (k : fw_L L xs (pc + 1) lv (.int (nI L) :: st) μx μm) : fw_L L xs pc lv (.ref 2 :: st) μx μm := fun _ _ _ _ _ _ _ _ _ _ _ _ _ _ _ _ C hl hP hD hS => va_slen C.1.1 C.1.2.1 C.2.2.1.1 C.2.2.1.2 (Nat.not_le_of_lt C.2.2.1.2) hS hd (k C hl hP hD hS)
theorem wl_goto {off : Int} {tgt : Nat} (hd : decode code pc = .ok (.goto off, 3)) (ht : (pc : Int) + off = (tgt : Int)) (k : fw_L L xs tgt lv (st) μx μm) : fw_L L xs pc lv (st) μx μm := fun _ _ _ _ _ _ _ _ _ _ _ _ _ _ _ _ C hl hP hD hS => lv_goto C.1.1 C.1.2.1 hd ht (k C hl hP hD hS)
theorem wl_gt {x y : Int32} {off : Int} {tgt : Nat} (hd : decode code pc = .ok (.if_icmp .gt off, 3)) (ht : (pc : Int) + off = (tgt : Int)) (kp : y < x → fw_L L xs tgt lv (st) μx μm) (kn : ¬ y < x → fw_L L xs (pc + 3) lv (st) μx μm) : fw_L L xs pc lv (.int y :: .int x :: st) μx μm := fun _ _ _ _ _ _ _ _ _ _ _ _ _ _ _ _ C hl hP hD hS => lv_icmp_gt C.1.1 C.1.2.1 hd ht (fun h => kp h C hl hP hD hS) (fun h => kn h C hl hP hD hS)
theorem wl_eq {x : Int32} {off : Int} {tgt : Nat} (hd : decode code pc = .ok (.if_icmp .eq off, 3)) (ht : (pc : Int) + off = (tgt : Int)) (k : fw_L L xs tgt lv (st) μx μm) : fw_L L xs pc lv (.int x :: .int x :: st) μx μm := fun _ _ _ _ _ _ _ _ _ _ _ _ _ _ _ _ C hl hP hD hS => lv_icmp_eq C.1.1 C.1.2.1 hd ht (fun h => k C hl hP hD hS) (fun h => absurd rfl h)
theorem wl_tin {dflt lo hi : Int} {offs : Array Int} {len : Nat} {x : Int32} {off : Int} {tgt : Nat} (hd : decode code pc = .ok (.tableswitch dflt lo hi offs, len)) (h1 : ¬ x.toInt < lo) (h2 : ¬ hi < x.toInt) (ho : offs[(x.toInt - lo).toNat]? = some off) (ht : (pc : Int) + off = (tgt : Int)) (k : fw_L L xs tgt lv (st) μx μm) : fw_L L xs pc lv (.int x :: st) μx μm := fun _ _ _ _ _ _ _ _ _ _ _ _ _ _ _ _ C hl hP hD hS => lv_tableIn C.1.1 C.1.2.1 hd h1 h2 ho ht (k C hl hP hD hS)
theorem wl_iinc {i j : Nat} {n : Int} {x v : Int32} {lv1 : List (Nat × Value)} (hd : decode code pc = .ok (.iinc i n, 3)) (hj : lv[j]? = some (i, .int x)) (hv : x + Int32.ofInt n = v) (hn : i < 4) (h : (i, Value.int v) :: lv.filter (fun q => !(q.1 == i) && !(q.1 + 1 == i && q.2.category == 2)) = lv1) (k : fw_L L xs (pc + 3) lv1 (st) μx μm) : fw_L L xs pc lv (st) μx μm := fun p l e s m below meth c b D dA ad ad2 H locs ls C hl hP hD hS => lv_iinc (k := j) (x := x) (lv' := lv1.map (fw_g (fw_la ad ad2 b))) C.1.1 C.1.2.1 hd hl (by rw [List.getElem?_map, hj]; rfl) hv hn (by rw [fw_fil, ← h]; rfl) (fun ls1 hl1 => k C hl1 hP hD hS)
theorem wl_sub {lv1 : List (Nat × Value)} (ks : List Nat) (h : lv_pick lv ks = lv1) (k : fw_L L xs pc lv1 (st) μx μm) : fw_L L xs pc lv (st) μx μm := fun p l e s m below meth c b D dA ad ad2 H locs ls C hl hP hD hS => k C (lv_sub hl ks (by rw [← h]; exact fw_pick _ lv ks)) hP hD hS
theorem wl_top {x y : Int32} (h : y = x) (k : fw_L L xs pc lv (.int y :: st) μx μm) : fw_L L xs pc lv (.int x :: st) μx μm := h ▸ k
theorem wl_ret (hd : decode code pc = .ok (.ireturn, 1)) : fw_L L xs pc lv [.int 1] μx μm := fun _ _ _ _ _ _ _ _ _ _ _ _ _ _ _ _ C hl hP hD hS => va_forget hS.2.2 (lw_ret C.1.1 C.1.2.1 C.2.1.1 C.2.1.2 hd)

def fw_LX (ad : Nat → Nat) (n sz : Nat) : Nat → Prop := fun q => (∃ k, k < n ∧ q = ad k) ∨ sz ≤ q
theorem fw_wD {sh : List fw_K} {ad : Nat → Nat} {dA : Nat → ClassId} {μ : fw_M} {A : Nat → Prop} {sz : Nat} (h : va_D A (fw_w sh ad dA μ)) : va_D (fw_LX ad sh.length sz) (fw_w sh ad dA μ) := by
  refine ⟨h.1, fun k q hk => Or.inl ⟨k, ?_, ?_⟩⟩
  · have := (List.getElem?_eq_some_iff.mp hk).1
    simpa [fw_w] using this
  · simp only [fw_w, List.getElem?_mapIdx] at hk
    cases hs : sh[k]? with
    | none => rw [hs] at hk; cases hk
    | some t => rw [hs] at hk; cases hk; rfl
theorem fw_wKeep {sh : List fw_K} {ad : Nat → Nat} {dA : Nat → ClassId} {μ : fw_M} {D : va_G} {H H1 : Heap} (h : va_P D fw_cl (fw_w sh ad dA μ) H) (hk : ∀ k, k < sh.length → H1[ad k]? = H[ad k]?) : va_P D fw_cl (fw_w sh ad dA μ) H1 := by
  refine h.kept (fun k q hq => ?_)
  simp only [fw_w, List.getElem?_mapIdx] at hq
  cases hs : sh[k]? with
  | none => rw [hs] at hq; cases hq
  | some t => rw [hs] at hq; cases hq; exact hk k (List.getElem?_eq_some_iff.mp hs).1
theorem fw_wLt {sh : List fw_K} {ad : Nat → Nat} {dA : Nat → ClassId} {μ : fw_M} {D : va_G} {H : Heap} (h : va_P D fw_cl (fw_w sh ad dA μ) H) {k : Nat} (hk : k < sh.length) : ad k < H.size := by
  have e : sh[k]? = some sh[k] := List.getElem?_eq_getElem hk
  exact (h k _ (fw_wget e)).lt
theorem fw_lenX : fw_X.length = 94 := rfl
theorem fw_lenM : fw_Mo.length = 28 := rfl
theorem fw_rmL {d n : Nat} (h : d ≤ 40) (hn : n ≤ 20) : (fw_rm d).frames + 1 ≤ room_1.frames ∧ 8 + (n + 11) + (fw_rm d).locals ≤ room_1.locals := by
  constructor
  · show d + 1 ≤ 2048; omega
  · show 8 + (n + 11) + 40 * d ≤ 84000; omega
theorem fw_enterL {sh : List fw_K} {D : va_G} {dA : Nat → ClassId} {ad : Nat → Nat} {A A1 : Nat → Prop} {μ : fw_M} {av : List Value} {s : State} {H : Heap} {locs : List Loc} (hA : ∀ q, H.size ≤ q → A1 q) (hA1 : ∀ q, A1 q → A q) (hP : va_P D fw_cl (fw_w sh ad dA μ) H) (hK : va_K D fw_cl (fw_ty dA) s) (hD : va_D A1 (fw_w sh ad dA μ)) (hS : va_S A s.heap H locs) (hSt : fw_St ad A s s.heap) (hN : fw_Ne s) : ∀ U : State, U.heap = H → s.WarmedH U.vm → va_Pc av (fw_Pre sh D dA ad A1 μ) av.toArray U := by
  intro U hU hW
  obtain ⟨g1, g2, g3, g4, g5, g6⟩ := (hSt.kept hS.2.1).moved hW.alike
  refine ⟨rfl, fun q hq => hA q (by rw [hU] at hq; exact hq), by rw [hU]; exact hP, va_K.moved hW.alike hK, hD, ?_, fw_Ne.warm hW hN⟩
  rw [hU]
  exact ⟨g1.narrow hA1, g2.narrow hA1, g3.narrow hA1, g4.narrow hA1, g5.narrow hA1, g6.narrow hA1⟩
theorem wl_callX {index d2 n : Nat} {Z : fw_Y} {as st0 : List Value} {r : Int32} {μ2 : fw_M} (hd : decode code pc = .ok (.invokevirtual index, 3)) (hM : fw_MV "FewTypesLaw" index Z 8 n) (hc : fw_Con Z fw_X d2 (.ref 0 :: as) (some r) μx μ2) (hdd : d2 ≤ 40) (hn : as.length = n) (ha : ∀ ad f, as.map (fw_v ad) = as.map (fw_v f)) (hst : as.reverse ++ .ref 0 :: st = st0) (hroom : (st.map fun v => v.category).sum ≤ 8) (k : fw_L L xs (pc + 3) lv (.int r :: st) μ2 μm) : fw_L L xs pc lv st0 μx μm := by
  subst hst
  intro p l e s m below meth c b D dA ad ad2 H locs ls C hl hP hD hS
  rw [fw_revV]
  obtain ⟨T, N, hcl⟩ := hM.2.2.2.2.2.2.2
  have hF : ∀ q, fw_LX ad 94 H.size q → s.heap.size ≤ q := by
    rintro q (⟨k, hk, rfl⟩ | h)
    · exact C.2.2.2.2.2.1 k hk
    · exact Nat.le_trans hS.1 h
  have hDc : va_D (fw_LX ad 94 H.size) (fw_w fw_X ad dA μx) := fw_wD hD.1
  have hc1 := hc l D dA ad (fw_LX ad 94 H.size)
  rw [List.map_cons, ha ad (fw_la ad ad2 b)] at hc1
  refine va_calli (post := fun x u => x = r ∧ u = μ2) (B := fw_B fw_X D dA ad (fw_LX ad 94 H.size)) (A1 := fw_LX ad 94 H.size) (a := (Value.ref (ad 0) :: as.map (fw_v (fw_la ad ad2 b))).toArray) (va_runV (As := as.map (fw_v (fw_la ad ad2 b))) (rest := st.map (fw_v (fw_la ad ad2 b))) (b := ad 0) (Qc := fw_Q fw_X D dA ad (fw_LX ad 94 H.size) (some r) μ2) C.1 hc1 (cwV n C.1.2.2.2.2 (fw_gV hM) rfl rfl rfl ⟨rfl, hM.2.2.2.2.2.1⟩ (fw_rmL hdd hM.2.2.2.2.2.2.1)) ⟨fw_blind, va_recv C.2.2.2.1 hP.1 hcl (fw_wget fw_X0), fw_enterL (fun q h => Or.inr h) hF hP.1 C.2.2.2.1 hDc hS C.2.2.2.2.1.1 C.2.2.2.2.1.2.2⟩ rfl (by rw [List.length_map]; exact hn) hl.1 rfl (lv_room (by rw [fw_cat]; exact hroom)) hd ⟨Nat.le_of_ble_eq_true rfl, Nat.le_of_ble_eq_true rfl⟩) hS (fun q _ h => hF q h) hF ?_
  intro r2 u t H1 locs1 ht hvm hp hB hz hk hS1
  obtain ⟨rfl, rfl⟩ := hp
  obtain ⟨hP1, -, hD1⟩ := hB
  refine k C hl ⟨by rw [← ht]; exact hP1, fw_wKeep hP.2 (fun j hj => hk _ (fw_wLt hP.2 hj) ?_)⟩ ⟨hD1.weaken (fun _ q _ h => hF q.1 h), hD.2⟩ hS1
  rintro (⟨i, hi, e⟩ | h)
  · exact C.2.2.2.2.2.2.2 i j hi hj e.symm
  · exact absurd (fw_wLt hP.2 hj) (Nat.not_lt_of_le h)
theorem wl_callM {index d2 n : Nat} {Z : fw_Y} {as st0 : List Value} {r : Int32} {μ2 : fw_M} (hd : decode code pc = .ok (.invokevirtual index, 3)) (hM : fw_MV "FewTypesLaw" index Z 9 n) (hc : fw_Con Z fw_Mo d2 (.ref 0 :: as) (some r) μm μ2) (hdd : d2 ≤ 40) (hn : as.length = n) (ha : ∀ ad f, as.map (fw_v ad) = as.map (fw_v f)) (hst : as.reverse ++ .ref 1 :: st = st0) (hroom : (st.map fun v => v.category).sum ≤ 8) (k : fw_L L xs (pc + 3) lv (.int r :: st) μx μ2) : fw_L L xs pc lv st0 μx μm := by
  subst hst
  intro p l e s m below meth c b D dA ad ad2 H locs ls C hl hP hD hS
  rw [fw_revV]
  obtain ⟨T, N, hcl⟩ := hM.2.2.2.2.2.2.2
  have hF : ∀ q, fw_LX ad2 28 H.size q → s.heap.size ≤ q := by
    rintro q (⟨k, hk, rfl⟩ | h)
    · exact C.2.2.2.2.2.2.1 k hk
    · exact Nat.le_trans hS.1 h
  have hDc : va_D (fw_LX ad2 28 H.size) (fw_w fw_Mo ad2 dA μm) := fw_wD hD.2
  have hc1 := hc l D dA ad2 (fw_LX ad2 28 H.size)
  rw [List.map_cons, ha ad2 (fw_la ad ad2 b)] at hc1
  refine va_calli (post := fun x u => x = r ∧ u = μ2) (B := fw_B fw_Mo D dA ad2 (fw_LX ad2 28 H.size)) (A1 := fw_LX ad2 28 H.size) (a := (Value.ref (ad2 0) :: as.map (fw_v (fw_la ad ad2 b))).toArray) (va_runV (As := as.map (fw_v (fw_la ad ad2 b))) (rest := st.map (fw_v (fw_la ad ad2 b))) (b := ad2 0) (Qc := fw_Q fw_Mo D dA ad2 (fw_LX ad2 28 H.size) (some r) μ2) C.1 hc1 (cwV n C.1.2.2.2.2 (fw_gV hM) rfl rfl rfl ⟨rfl, hM.2.2.2.2.2.1⟩ (fw_rmL hdd hM.2.2.2.2.2.2.1)) ⟨fw_blind, va_recv C.2.2.2.1 hP.2 hcl (fw_wget fw_Mo0), fw_enterL (fun q h => Or.inr h) hF hP.2 C.2.2.2.1 hDc hS C.2.2.2.2.1.2.1 C.2.2.2.2.1.2.2⟩ rfl (by rw [List.length_map]; exact hn) hl.1 rfl (lv_room (by rw [fw_cat]; exact hroom)) hd ⟨Nat.le_of_ble_eq_true rfl, Nat.le_of_ble_eq_true rfl⟩) hS (fun q _ h => hF q h) hF ?_
  intro r2 u t H1 locs1 ht hvm hp hB hz hk hS1
  obtain ⟨rfl, rfl⟩ := hp
  obtain ⟨hP1, -, hD1⟩ := hB
  refine k C hl ⟨fw_wKeep hP.1 (fun j hj => hk _ (fw_wLt hP.1 hj) ?_), by rw [← ht]; exact hP1⟩ ⟨hD.1, hD1.weaken (fun _ q _ h => hF q.1 h)⟩ hS1
  rintro (⟨i, hi, e⟩ | h)
  · exact C.2.2.2.2.2.2.2 j i hj hi e
  · exact absurd (fw_wLt hP.1 hj) (Nat.not_lt_of_le h)
theorem wl_in {n j : Nat} (hL : L ≤ 3072) (h : 6 * n + 6 ≤ L) (hj : j < 6) {x : Int32} (hx : x = nI (6 * n + j)) : vp_in x L := by
  subst hx
  exact vp_in_nI (by omega) (by omega)
end FWL

def fw_O_cast (I : Nat → fw_M → fw_M → Prop) : Prop := ∀ (n : Nat) (μx μm : fw_M), n < 512 → I n μx μm → ∀ (a1 : Int32) (a2 : Int32) (a3 : Int32), ∃ (r : Int32) (νx : fw_M) (νm : fw_M), f_X_cast a1 a2 a3 μx = some (r, νx) ∧ f_M_cast a1 a2 a3 μm = some (r, νm) ∧ I (n + 1) νx νm
def fw_O_told (I : Nat → fw_M → fw_M → Prop) : Prop := ∀ (n : Nat) (μx μm : fw_M), n < 512 → I n μx μm → ∀ (a1 : Int32) (a2 : Int32), ∃ (r : Int32), f_X_told a1 a2 μx = some r ∧ f_M_told a1 a2 μm = some r ∧ I (n + 1) μx μm
def fw_O_lose (I : Nat → fw_M → fw_M → Prop) : Prop := ∀ (n : Nat) (μx μm : fw_M), n < 512 → I n μx μm → ∀ (a1 : Int32), ∃ (r : Int32) (νx : fw_M) (νm : fw_M), f_X_lose a1 μx = some (r, νx) ∧ f_M_lose a1 μm = some (r, νm) ∧ I (n + 1) νx νm
def fw_O_width (I : Nat → fw_M → fw_M → Prop) : Prop := ∀ (n : Nat) (μx μm : fw_M), n < 512 → I n μx μm → ∀ (a1 : Int32) (a2 : Int32), ∃ (r : Int32) (νx : fw_M) (νm : fw_M), f_X_width a1 a2 μx = some (r, νx) ∧ f_M_width a1 a2 μm = some (r, νm) ∧ I (n + 1) νx νm
def fw_O_rule (I : Nat → fw_M → fw_M → Prop) : Prop := ∀ (n : Nat) (μx μm : fw_M), n < 512 → I n μx μm → ∀ (a1 : Int32) (a2 : Int32), ∃ (r : Int32) (νx : fw_M) (νm : fw_M), f_X_rule a1 a2 μx = some (r, νx) ∧ f_M_rule a1 a2 μm = some (r, νm) ∧ I (n + 1) νx νm
def fw_O_type (I : Nat → fw_M → fw_M → Prop) : Prop := ∀ (n : Nat) (μx μm : fw_M), n < 512 → I n μx μm → ∀ (a1 : Int64) (a3 : Int32), ∃ (r : Int32) (νx : fw_M) (νm : fw_M), f_X_type a1 a3 μx = some (r, νx) ∧ f_M_type a1 a3 μm = some (r, νm) ∧ I (n + 1) νx νm
def fw_O_line (I : Nat → fw_M → fw_M → Prop) : Prop := ∀ (n : Nat) (μx μm : fw_M), n < 512 → I n μx μm → ∃ (r : Int32) (νx : fw_M) (νm : fw_M), f_X_line  μx = some (r, νx) ∧ f_M_line  μm = some (r, νm) ∧ I (n + 1) νx νm
def fw_O_types (I : Nat → fw_M → fw_M → Prop) : Prop := ∀ (n : Nat) (μx μm : fw_M), n < 512 → I n μx μm → ∃ (r : Int32) (νx : fw_M) (νm : fw_M), f_X_types  μx = some (r, νx) ∧ f_M_types  μm = some (r, νm) ∧ I (n + 1) νx νm
def fw_O_place (I : Nat → fw_M → fw_M → Prop) : Prop := ∀ (n : Nat) (μx μm : fw_M), n < 512 → I n μx μm → ∀ (a1 : Int32) (a2 : Int32), ∃ (r : Int32), f_X_place a1 a2 μx = some r ∧ f_M_place a1 a2 μm = some r ∧ I (n + 1) μx μm
def fw_O_count (I : Nat → fw_M → fw_M → Prop) : Prop := ∀ (n : Nat) (μx μm : fw_M), n < 512 → I n μx μm → ∀ (a1 : Int32), ∃ (r : Int32), f_X_count a1 μx = some r ∧ f_M_count a1 μm = some r ∧ I (n + 1) μx μm
def fw_O_can (I : Nat → fw_M → fw_M → Prop) : Prop := ∀ (n : Nat) (μx μm : fw_M), n < 512 → I n μx μm → ∀ (a1 : Int32), ∃ (r : Int32) (νx : fw_M) (νm : fw_M), f_X_can a1 μx = some (r, νx) ∧ f_M_can a1 μm = some (r, νm) ∧ I (n + 1) νx νm
def fw_O_by (I : Nat → fw_M → fw_M → Prop) : Prop := ∀ (n : Nat) (μx μm : fw_M), n < 512 → I n μx μm → ∀ (a1 : Int32) (a2 : Int32), ∃ (r : Int32) (νx : fw_M) (νm : fw_M), f_X_by a1 a2 μx = some (r, νx) ∧ f_M_by a1 a2 μm = some (r, νm) ∧ I (n + 1) νx νm
def fw_O_fewest (I : Nat → fw_M → fw_M → Prop) : Prop := ∀ (n : Nat) (μx μm : fw_M), n < 512 → I n μx μm → ∃ (r : Int32) (νx : fw_M) (νm : fw_M), f_X_fewest  μx = some (r, νx) ∧ f_M_fewest  μm = some (r, νm) ∧ I (n + 1) νx νm
def fw_O_plan (I : Nat → fw_M → fw_M → Prop) : Prop := ∀ (n : Nat) (μx μm : fw_M), n < 512 → I n μx μm → ∀ (a1 : Int32), ∃ (r : Int32) (νx : fw_M) (νm : fw_M), f_X_plan a1 μx = some (r, νx) ∧ f_M_plan a1 μm = some (r, νm) ∧ I (n + 1) νx νm
def fw_O_bound (I : Nat → fw_M → fw_M → Prop) : Prop := ∀ (n : Nat) (μx μm : fw_M), n < 512 → I n μx μm → ∃ (r : Int32), f_X_bound  μx = some r ∧ f_M_bound  μm = some r ∧ I (n + 1) μx μm
def fw_O_order (I : Nat → fw_M → fw_M → Prop) : Prop := ∀ (n : Nat) (μx μm : fw_M), n < 512 → I n μx μm → ∀ (a1 : Int32), ∃ (r : Int32) (νx : fw_M) (νm : fw_M), f_X_order a1 μx = some (r, νx) ∧ f_M_order a1 μm = some (r, νm) ∧ I (n + 1) νx νm
def fw_O_make (I : Nat → fw_M → fw_M → Prop) : Prop := ∀ (n : Nat) (μx μm : fw_M), n < 512 → I n μx μm → ∀ (a1 : Int32), ∃ (r : Int32) (νx : fw_M) (νm : fw_M), f_X_make a1 μx = some (r, νx) ∧ f_M_make a1 μm = some (r, νm) ∧ I (n + 1) νx νm
def fw_O_text (I : Nat → fw_M → fw_M → Prop) : Prop := ∀ (n : Nat) (μx μm : fw_M), n < 512 → I n μx μm → ∀ (a1 : Int32), ∃ (r : Int32) (νx : fw_M) (νm : fw_M), f_X_text a1 μx = some (r, νx) ∧ f_M_text a1 μm = some (r, νm) ∧ I (n + 1) νx νm
def fw_O_needs (I : Nat → fw_M → fw_M → Prop) : Prop := ∀ (n : Nat) (μx μm : fw_M), n < 512 → I n μx μm → ∀ (a1 : Int32), ∃ (r : Int32) (νx : fw_M) (νm : fw_M), f_X_needs a1 μx = some (r, νx) ∧ f_M_needs a1 μm = some (r, νm) ∧ I (n + 1) νx νm
def fw_O_lost (I : Nat → fw_M → fw_M → Prop) : Prop := ∀ (n : Nat) (μx μm : fw_M), n < 512 → I n μx μm → ∀ (a1 : Int32), ∃ (r : Int32) (νm : fw_M), f_X_lost a1 μx = some r ∧ f_M_lost a1 μm = some (r, νm) ∧ I (n + 1) μx νm
def fw_O_said (I : Nat → fw_M → fw_M → Prop) : Prop := ∀ (n : Nat) (μx μm : fw_M), n < 512 → I n μx μm → ∀ (a1 : Int32), ∃ (r : Int32) (νx : fw_M) (νm : fw_M), f_X_said a1 μx = some (r, νx) ∧ f_M_said a1 μm = some (r, νm) ∧ I (n + 1) νx νm
def fw_O_job (I : Nat → fw_M → fw_M → Prop) : Prop := ∀ (n : Nat) (μx μm : fw_M), n < 512 → I n μx μm → ∀ (a1 : Int32) (a2 : Int32), ∃ (r : Int32) (νx : fw_M) (νm : fw_M), f_X_job a1 a2 μx = some (r, νx) ∧ f_M_job a1 a2 μm = some (r, νm) ∧ I (n + 1) νx νm
def fw_O_done (I : Nat → fw_M → fw_M → Prop) : Prop := ∀ (n : Nat) (μx μm : fw_M), n < 512 → I n μx μm → ∃ (r : Int32) (νx : fw_M), f_X_done  μx = some (r, νx) ∧ f_M_done  μm = some r ∧ I (n + 1) νx μm
def fw_O_clear (I : Nat → fw_M → fw_M → Prop) : Prop := ∀ (n : Nat) (μx μm : fw_M), n < 512 → I n μx μm → ∃ (r : Int32) (νx : fw_M) (νm : fw_M), f_X_clear  μx = some (r, νx) ∧ f_M_clear  μm = some (r, νm) ∧ I (n + 1) νx νm
def fw_O_image (I : Nat → fw_M → fw_M → Prop) : Prop := ∀ (n : Nat) (μx μm : fw_M), n < 512 → I n μx μm → ∃ (r : Int32) (νx : fw_M) (νm : fw_M), f_X_image  μx = some (r, νx) ∧ f_M_image  μm = some (r, νm) ∧ I (n + 1) νx νm
def fw_O_restore (I : Nat → fw_M → fw_M → Prop) : Prop := ∀ (n : Nat) (μx μm : fw_M), n < 512 → I n μx μm → ∃ (r : Int32) (νx : fw_M) (νm : fw_M), f_X_restore  μx = some (r, νx) ∧ f_M_restore  μm = some (r, νm) ∧ I (n + 1) νx νm
def fw_O_leaf (I : Nat → fw_M → fw_M → Prop) : Prop := ∀ (n : Nat) (μx μm : fw_M), n < 512 → I n μx μm → ∀ (a1 : Int32) (a2 : Int32) (a3 : Int32), ∃ (r : Int32) (νx : fw_M) (νm : fw_M), f_X_leaf a1 a2 a3 μx = some (r, νx) ∧ f_M_leaf a1 a2 a3 μm = some (r, νm) ∧ I (n + 1) νx νm
def fw_O_alike (I : Nat → fw_M → fw_M → Prop) : Prop := ∀ (n : Nat) (μx μm : fw_M), n < 512 → I n μx μm → ∀ (a1 : Int32) (a2 : Int32) (a3 : Int32) (a4 : Int32), ∃ (r : Int32), f_X_alike a1 a2 a3 a4 μx = some r ∧ f_M_alike a1 a2 a3 a4 μm = some r ∧ I (n + 1) μx μm
def fw_O_sheet (I : Nat → fw_M → fw_M → Prop) : Prop := ∀ (n : Nat) (μx μm : fw_M), n < 512 → I n μx μm → ∀ (a1 : Int32) (a2 : Int32) (a3 : Int32), ∃ (r : Int32) (νx : fw_M) (νm : fw_M), f_X_sheet a1 a2 a3 μx = some (r, νx) ∧ f_M_sheet a1 a2 a3 μm = some (r, νm) ∧ I (n + 1) νx νm
def fw_O_drop (I : Nat → fw_M → fw_M → Prop) : Prop := ∀ (n : Nat) (μx μm : fw_M), n < 512 → I n μx μm → ∀ (a1 : Int32), ∃ (r : Int32) (νx : fw_M) (νm : fw_M), f_X_drop a1 μx = some (r, νx) ∧ f_M_drop a1 μm = some (r, νm) ∧ I (n + 1) νx νm
def fw_O_item (I : Nat → fw_M → fw_M → Prop) : Prop := ∀ (n : Nat) (μx μm : fw_M), n < 512 → I n μx μm → ∀ (a1 : Int32) (a2 : Int32) (a3 : Int32) (a4 : Int32), ∃ (r : Int32) (νx : fw_M) (νm : fw_M), f_X_item a1 a2 a3 a4 μx = some (r, νx) ∧ f_M_item a1 a2 a3 a4 μm = some (r, νm) ∧ I (n + 1) νx νm
def fw_O_copy (I : Nat → fw_M → fw_M → Prop) : Prop := ∀ (n : Nat) (μx μm : fw_M), n < 512 → I n μx μm → ∀ (a1 : Int32) (a2 : Int32) (a3 : Int32) (a4 : Int32) (a5 : Int32), ∃ (r : Int32) (νx : fw_M) (νm : fw_M), f_X_copy a1 a2 a3 a4 a5 μx = some (r, νx) ∧ f_M_copy a1 a2 a3 a4 a5 μm = some (r, νm) ∧ I (n + 1) νx νm
def fw_OK (I : Nat → fw_M → fw_M → Prop) : Prop := fw_O_cast I ∧ fw_O_told I ∧ fw_O_lose I ∧ fw_O_width I ∧ fw_O_rule I ∧ fw_O_type I ∧ fw_O_line I ∧ fw_O_types I ∧ fw_O_place I ∧ fw_O_count I ∧ fw_O_can I ∧ fw_O_by I ∧ fw_O_fewest I ∧ fw_O_plan I ∧ fw_O_bound I ∧ fw_O_order I ∧ fw_O_make I ∧ fw_O_text I ∧ fw_O_needs I ∧ fw_O_lost I ∧ fw_O_said I ∧ fw_O_job I ∧ fw_O_done I ∧ fw_O_clear I ∧ fw_O_image I ∧ fw_O_restore I ∧ fw_O_leaf I ∧ fw_O_alike I ∧ fw_O_sheet I ∧ fw_O_drop I ∧ fw_O_item I ∧ fw_O_copy I
theorem d_law_0 : decode code 0 = .ok (.new 7, 3) := by decide +kernel
theorem d_law_3 : decode code 3 = .ok (.dup, 1) := by decide +kernel
theorem d_law_4 : decode code 4 = .ok (.invokespecial 9, 3) := by decide +kernel
theorem d_law_7 : decode code 7 = .ok (.astore_n 1, 1) := by decide +kernel
theorem d_law_8 : decode code 8 = .ok (.new 10, 3) := by decide +kernel
theorem d_law_11 : decode code 11 = .ok (.dup, 1) := by decide +kernel
theorem d_law_12 : decode code 12 = .ok (.invokespecial 12, 3) := by decide +kernel
theorem d_law_15 : decode code 15 = .ok (.astore_n 2, 1) := by decide +kernel
theorem d_law_16 : decode code 16 = .ok (.iconst 0, 1) := by decide +kernel
theorem d_law_17 : decode code 17 = .ok (.istore_n 3, 1) := by decide +kernel
theorem d_law_18 : decode code 18 = .ok (.iload_n 3, 1) := by decide +kernel
theorem d_law_19 : decode code 19 = .ok (.aload_n 0, 1) := by decide +kernel
theorem d_law_20 : decode code 20 = .ok (.arraylength, 1) := by decide +kernel
theorem d_law_21 : decode code 21 = .ok (.bipush 6, 2) := by decide +kernel
theorem d_law_23 : decode code 23 = .ok (.isub, 1) := by decide +kernel
theorem d_law_24 : decode code 24 = .ok (.if_icmp .gt 1074, 3) := by decide +kernel
theorem d_law_27 : decode code 27 = .ok (.aload_n 0, 1) := by decide +kernel
theorem d_law_28 : decode code 28 = .ok (.iload_n 3, 1) := by decide +kernel
theorem d_law_29 : decode code 29 = .ok (.iaload, 1) := by decide +kernel
theorem d_law_30 : decode code 30 = .ok (.bipush 31, 2) := by decide +kernel
theorem d_law_32 : decode code 32 = .ok (.iand, 1) := by decide +kernel
theorem d_law_33 : decode code 33 = .ok (.tableswitch 1059 0 31 #[143, 186, 219, 242, 275, 308, 371, 384, 397, 430, 453, 476, 509, 522, 545, 558, 581, 604, 627, 650, 673, 696, 729, 742, 755, 768, 781, 824, 877, 920, 943, 996], 143) := by decide +kernel
theorem d_law_176 : decode code 176 = .ok (.aload_n 1, 1) := by decide +kernel
theorem d_law_177 : decode code 177 = .ok (.aload_n 0, 1) := by decide +kernel
theorem d_law_178 : decode code 178 = .ok (.iload_n 3, 1) := by decide +kernel
theorem d_law_179 : decode code 179 = .ok (.iconst 1, 1) := by decide +kernel
theorem d_law_180 : decode code 180 = .ok (.iadd, 1) := by decide +kernel
theorem d_law_181 : decode code 181 = .ok (.iaload, 1) := by decide +kernel
theorem d_law_182 : decode code 182 = .ok (.aload_n 0, 1) := by decide +kernel
theorem d_law_183 : decode code 183 = .ok (.iload_n 3, 1) := by decide +kernel
theorem d_law_184 : decode code 184 = .ok (.iconst 2, 1) := by decide +kernel
theorem d_law_185 : decode code 185 = .ok (.iadd, 1) := by decide +kernel
theorem d_law_186 : decode code 186 = .ok (.iaload, 1) := by decide +kernel
theorem d_law_187 : decode code 187 = .ok (.aload_n 0, 1) := by decide +kernel
theorem d_law_188 : decode code 188 = .ok (.iload_n 3, 1) := by decide +kernel
theorem d_law_189 : decode code 189 = .ok (.iconst 3, 1) := by decide +kernel
theorem d_law_190 : decode code 190 = .ok (.iadd, 1) := by decide +kernel
theorem d_law_191 : decode code 191 = .ok (.iaload, 1) := by decide +kernel
theorem d_law_192 : decode code 192 = .ok (.invokevirtual 13, 3) := by decide +kernel
theorem d_law_195 : decode code 195 = .ok (.aload_n 2, 1) := by decide +kernel
theorem d_law_196 : decode code 196 = .ok (.aload_n 0, 1) := by decide +kernel
theorem d_law_197 : decode code 197 = .ok (.iload_n 3, 1) := by decide +kernel
theorem d_law_198 : decode code 198 = .ok (.iconst 1, 1) := by decide +kernel
theorem d_law_199 : decode code 199 = .ok (.iadd, 1) := by decide +kernel
theorem d_law_200 : decode code 200 = .ok (.iaload, 1) := by decide +kernel
theorem d_law_201 : decode code 201 = .ok (.aload_n 0, 1) := by decide +kernel
theorem d_law_202 : decode code 202 = .ok (.iload_n 3, 1) := by decide +kernel
theorem d_law_203 : decode code 203 = .ok (.iconst 2, 1) := by decide +kernel
theorem d_law_204 : decode code 204 = .ok (.iadd, 1) := by decide +kernel
theorem d_law_205 : decode code 205 = .ok (.iaload, 1) := by decide +kernel
theorem d_law_206 : decode code 206 = .ok (.aload_n 0, 1) := by decide +kernel
theorem d_law_207 : decode code 207 = .ok (.iload_n 3, 1) := by decide +kernel
theorem d_law_208 : decode code 208 = .ok (.iconst 3, 1) := by decide +kernel
theorem d_law_209 : decode code 209 = .ok (.iadd, 1) := by decide +kernel
theorem d_law_210 : decode code 210 = .ok (.iaload, 1) := by decide +kernel
theorem d_law_211 : decode code 211 = .ok (.invokevirtual 17, 3) := by decide +kernel
theorem d_law_214 : decode code 214 = .ok (.if_icmp .eq 878, 3) := by decide +kernel
theorem d_law_217 : decode code 217 = .ok (.iconst 0, 1) := by decide +kernel
theorem d_law_218 : decode code 218 = .ok (.ireturn, 1) := by decide +kernel
theorem d_law_219 : decode code 219 = .ok (.aload_n 1, 1) := by decide +kernel
theorem d_law_220 : decode code 220 = .ok (.aload_n 0, 1) := by decide +kernel
theorem d_law_221 : decode code 221 = .ok (.iload_n 3, 1) := by decide +kernel
theorem d_law_222 : decode code 222 = .ok (.iconst 1, 1) := by decide +kernel
theorem d_law_223 : decode code 223 = .ok (.iadd, 1) := by decide +kernel
theorem d_law_224 : decode code 224 = .ok (.iaload, 1) := by decide +kernel
theorem d_law_225 : decode code 225 = .ok (.aload_n 0, 1) := by decide +kernel
theorem d_law_226 : decode code 226 = .ok (.iload_n 3, 1) := by decide +kernel
theorem d_law_227 : decode code 227 = .ok (.iconst 2, 1) := by decide +kernel
theorem d_law_228 : decode code 228 = .ok (.iadd, 1) := by decide +kernel
theorem d_law_229 : decode code 229 = .ok (.iaload, 1) := by decide +kernel
theorem d_law_230 : decode code 230 = .ok (.invokevirtual 18, 3) := by decide +kernel
theorem d_law_233 : decode code 233 = .ok (.aload_n 2, 1) := by decide +kernel
theorem d_law_234 : decode code 234 = .ok (.aload_n 0, 1) := by decide +kernel
theorem d_law_235 : decode code 235 = .ok (.iload_n 3, 1) := by decide +kernel
theorem d_law_236 : decode code 236 = .ok (.iconst 1, 1) := by decide +kernel
theorem d_law_237 : decode code 237 = .ok (.iadd, 1) := by decide +kernel
theorem d_law_238 : decode code 238 = .ok (.iaload, 1) := by decide +kernel
theorem d_law_239 : decode code 239 = .ok (.aload_n 0, 1) := by decide +kernel
theorem d_law_240 : decode code 240 = .ok (.iload_n 3, 1) := by decide +kernel
theorem d_law_241 : decode code 241 = .ok (.iconst 2, 1) := by decide +kernel
theorem d_law_242 : decode code 242 = .ok (.iadd, 1) := by decide +kernel
theorem d_law_243 : decode code 243 = .ok (.iaload, 1) := by decide +kernel
theorem d_law_244 : decode code 244 = .ok (.invokevirtual 22, 3) := by decide +kernel
theorem d_law_247 : decode code 247 = .ok (.if_icmp .eq 845, 3) := by decide +kernel
theorem d_law_250 : decode code 250 = .ok (.iconst 0, 1) := by decide +kernel
theorem d_law_251 : decode code 251 = .ok (.ireturn, 1) := by decide +kernel
theorem d_law_252 : decode code 252 = .ok (.aload_n 1, 1) := by decide +kernel
theorem d_law_253 : decode code 253 = .ok (.aload_n 0, 1) := by decide +kernel
theorem d_law_254 : decode code 254 = .ok (.iload_n 3, 1) := by decide +kernel
theorem d_law_255 : decode code 255 = .ok (.iconst 1, 1) := by decide +kernel
theorem d_law_256 : decode code 256 = .ok (.iadd, 1) := by decide +kernel
theorem d_law_257 : decode code 257 = .ok (.iaload, 1) := by decide +kernel
theorem d_law_258 : decode code 258 = .ok (.invokevirtual 23, 3) := by decide +kernel
theorem d_law_261 : decode code 261 = .ok (.aload_n 2, 1) := by decide +kernel
theorem d_law_262 : decode code 262 = .ok (.aload_n 0, 1) := by decide +kernel
theorem d_law_263 : decode code 263 = .ok (.iload_n 3, 1) := by decide +kernel
theorem d_law_264 : decode code 264 = .ok (.iconst 1, 1) := by decide +kernel
theorem d_law_265 : decode code 265 = .ok (.iadd, 1) := by decide +kernel
theorem d_law_266 : decode code 266 = .ok (.iaload, 1) := by decide +kernel
theorem d_law_267 : decode code 267 = .ok (.invokevirtual 27, 3) := by decide +kernel
theorem d_law_270 : decode code 270 = .ok (.if_icmp .eq 822, 3) := by decide +kernel
theorem d_law_273 : decode code 273 = .ok (.iconst 0, 1) := by decide +kernel
theorem d_law_274 : decode code 274 = .ok (.ireturn, 1) := by decide +kernel
theorem d_law_275 : decode code 275 = .ok (.aload_n 1, 1) := by decide +kernel
theorem d_law_276 : decode code 276 = .ok (.aload_n 0, 1) := by decide +kernel
theorem d_law_277 : decode code 277 = .ok (.iload_n 3, 1) := by decide +kernel
theorem d_law_278 : decode code 278 = .ok (.iconst 1, 1) := by decide +kernel
theorem d_law_279 : decode code 279 = .ok (.iadd, 1) := by decide +kernel
theorem d_law_280 : decode code 280 = .ok (.iaload, 1) := by decide +kernel
theorem d_law_281 : decode code 281 = .ok (.aload_n 0, 1) := by decide +kernel
theorem d_law_282 : decode code 282 = .ok (.iload_n 3, 1) := by decide +kernel
theorem d_law_283 : decode code 283 = .ok (.iconst 2, 1) := by decide +kernel
theorem d_law_284 : decode code 284 = .ok (.iadd, 1) := by decide +kernel
theorem d_law_285 : decode code 285 = .ok (.iaload, 1) := by decide +kernel
theorem d_law_286 : decode code 286 = .ok (.invokevirtual 28, 3) := by decide +kernel
theorem d_law_289 : decode code 289 = .ok (.aload_n 2, 1) := by decide +kernel
theorem d_law_290 : decode code 290 = .ok (.aload_n 0, 1) := by decide +kernel
theorem d_law_291 : decode code 291 = .ok (.iload_n 3, 1) := by decide +kernel
theorem d_law_292 : decode code 292 = .ok (.iconst 1, 1) := by decide +kernel
theorem d_law_293 : decode code 293 = .ok (.iadd, 1) := by decide +kernel
theorem d_law_294 : decode code 294 = .ok (.iaload, 1) := by decide +kernel
theorem d_law_295 : decode code 295 = .ok (.aload_n 0, 1) := by decide +kernel
theorem d_law_296 : decode code 296 = .ok (.iload_n 3, 1) := by decide +kernel
theorem d_law_297 : decode code 297 = .ok (.iconst 2, 1) := by decide +kernel
theorem d_law_298 : decode code 298 = .ok (.iadd, 1) := by decide +kernel
theorem d_law_299 : decode code 299 = .ok (.iaload, 1) := by decide +kernel
theorem d_law_300 : decode code 300 = .ok (.invokevirtual 31, 3) := by decide +kernel
theorem d_law_303 : decode code 303 = .ok (.if_icmp .eq 789, 3) := by decide +kernel
theorem d_law_306 : decode code 306 = .ok (.iconst 0, 1) := by decide +kernel
theorem d_law_307 : decode code 307 = .ok (.ireturn, 1) := by decide +kernel
theorem d_law_308 : decode code 308 = .ok (.aload_n 1, 1) := by decide +kernel
theorem d_law_309 : decode code 309 = .ok (.aload_n 0, 1) := by decide +kernel
theorem d_law_310 : decode code 310 = .ok (.iload_n 3, 1) := by decide +kernel
theorem d_law_311 : decode code 311 = .ok (.iconst 1, 1) := by decide +kernel
theorem d_law_312 : decode code 312 = .ok (.iadd, 1) := by decide +kernel
theorem d_law_313 : decode code 313 = .ok (.iaload, 1) := by decide +kernel
theorem d_law_314 : decode code 314 = .ok (.aload_n 0, 1) := by decide +kernel
theorem d_law_315 : decode code 315 = .ok (.iload_n 3, 1) := by decide +kernel
theorem d_law_316 : decode code 316 = .ok (.iconst 2, 1) := by decide +kernel
theorem d_law_317 : decode code 317 = .ok (.iadd, 1) := by decide +kernel
theorem d_law_318 : decode code 318 = .ok (.iaload, 1) := by decide +kernel
theorem d_law_319 : decode code 319 = .ok (.invokevirtual 32, 3) := by decide +kernel
theorem d_law_322 : decode code 322 = .ok (.aload_n 2, 1) := by decide +kernel
theorem d_law_323 : decode code 323 = .ok (.aload_n 0, 1) := by decide +kernel
theorem d_law_324 : decode code 324 = .ok (.iload_n 3, 1) := by decide +kernel
theorem d_law_325 : decode code 325 = .ok (.iconst 1, 1) := by decide +kernel
theorem d_law_326 : decode code 326 = .ok (.iadd, 1) := by decide +kernel
theorem d_law_327 : decode code 327 = .ok (.iaload, 1) := by decide +kernel
theorem d_law_328 : decode code 328 = .ok (.aload_n 0, 1) := by decide +kernel
theorem d_law_329 : decode code 329 = .ok (.iload_n 3, 1) := by decide +kernel
theorem d_law_330 : decode code 330 = .ok (.iconst 2, 1) := by decide +kernel
theorem d_law_331 : decode code 331 = .ok (.iadd, 1) := by decide +kernel
theorem d_law_332 : decode code 332 = .ok (.iaload, 1) := by decide +kernel
theorem d_law_333 : decode code 333 = .ok (.invokevirtual 35, 3) := by decide +kernel
theorem d_law_336 : decode code 336 = .ok (.if_icmp .eq 756, 3) := by decide +kernel
theorem d_law_339 : decode code 339 = .ok (.iconst 0, 1) := by decide +kernel
theorem d_law_340 : decode code 340 = .ok (.ireturn, 1) := by decide +kernel
theorem d_law_341 : decode code 341 = .ok (.aload_n 1, 1) := by decide +kernel
theorem d_law_342 : decode code 342 = .ok (.aload_n 0, 1) := by decide +kernel
theorem d_law_343 : decode code 343 = .ok (.iload_n 3, 1) := by decide +kernel
theorem d_law_344 : decode code 344 = .ok (.iconst 1, 1) := by decide +kernel
theorem d_law_345 : decode code 345 = .ok (.iadd, 1) := by decide +kernel
theorem d_law_346 : decode code 346 = .ok (.iaload, 1) := by decide +kernel
theorem d_law_347 : decode code 347 = .ok (.i2l, 1) := by decide +kernel
theorem d_law_348 : decode code 348 = .ok (.bipush 32, 2) := by decide +kernel
theorem d_law_350 : decode code 350 = .ok (.lshl, 1) := by decide +kernel
theorem d_law_351 : decode code 351 = .ok (.aload_n 0, 1) := by decide +kernel
theorem d_law_352 : decode code 352 = .ok (.iload_n 3, 1) := by decide +kernel
theorem d_law_353 : decode code 353 = .ok (.iconst 2, 1) := by decide +kernel
theorem d_law_354 : decode code 354 = .ok (.iadd, 1) := by decide +kernel
theorem d_law_355 : decode code 355 = .ok (.iaload, 1) := by decide +kernel
theorem d_law_356 : decode code 356 = .ok (.i2l, 1) := by decide +kernel
theorem d_law_357 : decode code 357 = .ok (.ldc2_w 36, 3) := by decide +kernel
theorem d_law_360 : decode code 360 = .ok (.land, 1) := by decide +kernel
theorem d_law_361 : decode code 361 = .ok (.lor, 1) := by decide +kernel
theorem d_law_362 : decode code 362 = .ok (.aload_n 0, 1) := by decide +kernel
theorem d_law_363 : decode code 363 = .ok (.iload_n 3, 1) := by decide +kernel
theorem d_law_364 : decode code 364 = .ok (.iconst 3, 1) := by decide +kernel
theorem d_law_365 : decode code 365 = .ok (.iadd, 1) := by decide +kernel
theorem d_law_366 : decode code 366 = .ok (.iaload, 1) := by decide +kernel
theorem d_law_367 : decode code 367 = .ok (.invokevirtual 38, 3) := by decide +kernel
theorem d_law_370 : decode code 370 = .ok (.aload_n 2, 1) := by decide +kernel
theorem d_law_371 : decode code 371 = .ok (.aload_n 0, 1) := by decide +kernel
theorem d_law_372 : decode code 372 = .ok (.iload_n 3, 1) := by decide +kernel
theorem d_law_373 : decode code 373 = .ok (.iconst 1, 1) := by decide +kernel
theorem d_law_374 : decode code 374 = .ok (.iadd, 1) := by decide +kernel
theorem d_law_375 : decode code 375 = .ok (.iaload, 1) := by decide +kernel
theorem d_law_376 : decode code 376 = .ok (.i2l, 1) := by decide +kernel
theorem d_law_377 : decode code 377 = .ok (.bipush 32, 2) := by decide +kernel
theorem d_law_379 : decode code 379 = .ok (.lshl, 1) := by decide +kernel
theorem d_law_380 : decode code 380 = .ok (.aload_n 0, 1) := by decide +kernel
theorem d_law_381 : decode code 381 = .ok (.iload_n 3, 1) := by decide +kernel
theorem d_law_382 : decode code 382 = .ok (.iconst 2, 1) := by decide +kernel
theorem d_law_383 : decode code 383 = .ok (.iadd, 1) := by decide +kernel
theorem d_law_384 : decode code 384 = .ok (.iaload, 1) := by decide +kernel
theorem d_law_385 : decode code 385 = .ok (.i2l, 1) := by decide +kernel
theorem d_law_386 : decode code 386 = .ok (.ldc2_w 36, 3) := by decide +kernel
theorem d_law_389 : decode code 389 = .ok (.land, 1) := by decide +kernel
theorem d_law_390 : decode code 390 = .ok (.lor, 1) := by decide +kernel
theorem d_law_391 : decode code 391 = .ok (.aload_n 0, 1) := by decide +kernel
theorem d_law_392 : decode code 392 = .ok (.iload_n 3, 1) := by decide +kernel
theorem d_law_393 : decode code 393 = .ok (.iconst 3, 1) := by decide +kernel
theorem d_law_394 : decode code 394 = .ok (.iadd, 1) := by decide +kernel
theorem d_law_395 : decode code 395 = .ok (.iaload, 1) := by decide +kernel
theorem d_law_396 : decode code 396 = .ok (.invokevirtual 42, 3) := by decide +kernel
theorem d_law_399 : decode code 399 = .ok (.if_icmp .eq 693, 3) := by decide +kernel
theorem d_law_402 : decode code 402 = .ok (.iconst 0, 1) := by decide +kernel
theorem d_law_403 : decode code 403 = .ok (.ireturn, 1) := by decide +kernel
theorem d_law_404 : decode code 404 = .ok (.aload_n 1, 1) := by decide +kernel
theorem d_law_405 : decode code 405 = .ok (.invokevirtual 43, 3) := by decide +kernel
theorem d_law_408 : decode code 408 = .ok (.aload_n 2, 1) := by decide +kernel
theorem d_law_409 : decode code 409 = .ok (.invokevirtual 47, 3) := by decide +kernel
theorem d_law_412 : decode code 412 = .ok (.if_icmp .eq 680, 3) := by decide +kernel
theorem d_law_415 : decode code 415 = .ok (.iconst 0, 1) := by decide +kernel
theorem d_law_416 : decode code 416 = .ok (.ireturn, 1) := by decide +kernel
theorem d_law_417 : decode code 417 = .ok (.aload_n 1, 1) := by decide +kernel
theorem d_law_418 : decode code 418 = .ok (.invokevirtual 48, 3) := by decide +kernel
theorem d_law_421 : decode code 421 = .ok (.aload_n 2, 1) := by decide +kernel
theorem d_law_422 : decode code 422 = .ok (.invokevirtual 51, 3) := by decide +kernel
theorem d_law_425 : decode code 425 = .ok (.if_icmp .eq 667, 3) := by decide +kernel
theorem d_law_428 : decode code 428 = .ok (.iconst 0, 1) := by decide +kernel
theorem d_law_429 : decode code 429 = .ok (.ireturn, 1) := by decide +kernel
theorem d_law_430 : decode code 430 = .ok (.aload_n 1, 1) := by decide +kernel
theorem d_law_431 : decode code 431 = .ok (.aload_n 0, 1) := by decide +kernel
theorem d_law_432 : decode code 432 = .ok (.iload_n 3, 1) := by decide +kernel
theorem d_law_433 : decode code 433 = .ok (.iconst 1, 1) := by decide +kernel
theorem d_law_434 : decode code 434 = .ok (.iadd, 1) := by decide +kernel
theorem d_law_435 : decode code 435 = .ok (.iaload, 1) := by decide +kernel
theorem d_law_436 : decode code 436 = .ok (.aload_n 0, 1) := by decide +kernel
theorem d_law_437 : decode code 437 = .ok (.iload_n 3, 1) := by decide +kernel
theorem d_law_438 : decode code 438 = .ok (.iconst 2, 1) := by decide +kernel
theorem d_law_439 : decode code 439 = .ok (.iadd, 1) := by decide +kernel
theorem d_law_440 : decode code 440 = .ok (.iaload, 1) := by decide +kernel
theorem d_law_441 : decode code 441 = .ok (.invokevirtual 52, 3) := by decide +kernel
theorem d_law_444 : decode code 444 = .ok (.aload_n 2, 1) := by decide +kernel
theorem d_law_445 : decode code 445 = .ok (.aload_n 0, 1) := by decide +kernel
theorem d_law_446 : decode code 446 = .ok (.iload_n 3, 1) := by decide +kernel
theorem d_law_447 : decode code 447 = .ok (.iconst 1, 1) := by decide +kernel
theorem d_law_448 : decode code 448 = .ok (.iadd, 1) := by decide +kernel
theorem d_law_449 : decode code 449 = .ok (.iaload, 1) := by decide +kernel
theorem d_law_450 : decode code 450 = .ok (.aload_n 0, 1) := by decide +kernel
theorem d_law_451 : decode code 451 = .ok (.iload_n 3, 1) := by decide +kernel
theorem d_law_452 : decode code 452 = .ok (.iconst 2, 1) := by decide +kernel
theorem d_law_453 : decode code 453 = .ok (.iadd, 1) := by decide +kernel
theorem d_law_454 : decode code 454 = .ok (.iaload, 1) := by decide +kernel
theorem d_law_455 : decode code 455 = .ok (.invokevirtual 55, 3) := by decide +kernel
theorem d_law_458 : decode code 458 = .ok (.if_icmp .eq 634, 3) := by decide +kernel
theorem d_law_461 : decode code 461 = .ok (.iconst 0, 1) := by decide +kernel
theorem d_law_462 : decode code 462 = .ok (.ireturn, 1) := by decide +kernel
theorem d_law_463 : decode code 463 = .ok (.aload_n 1, 1) := by decide +kernel
theorem d_law_464 : decode code 464 = .ok (.aload_n 0, 1) := by decide +kernel
theorem d_law_465 : decode code 465 = .ok (.iload_n 3, 1) := by decide +kernel
theorem d_law_466 : decode code 466 = .ok (.iconst 1, 1) := by decide +kernel
theorem d_law_467 : decode code 467 = .ok (.iadd, 1) := by decide +kernel
theorem d_law_468 : decode code 468 = .ok (.iaload, 1) := by decide +kernel
theorem d_law_469 : decode code 469 = .ok (.invokevirtual 56, 3) := by decide +kernel
theorem d_law_472 : decode code 472 = .ok (.aload_n 2, 1) := by decide +kernel
theorem d_law_473 : decode code 473 = .ok (.aload_n 0, 1) := by decide +kernel
theorem d_law_474 : decode code 474 = .ok (.iload_n 3, 1) := by decide +kernel
theorem d_law_475 : decode code 475 = .ok (.iconst 1, 1) := by decide +kernel
theorem d_law_476 : decode code 476 = .ok (.iadd, 1) := by decide +kernel
theorem d_law_477 : decode code 477 = .ok (.iaload, 1) := by decide +kernel
theorem d_law_478 : decode code 478 = .ok (.invokevirtual 59, 3) := by decide +kernel
theorem d_law_481 : decode code 481 = .ok (.if_icmp .eq 611, 3) := by decide +kernel
theorem d_law_484 : decode code 484 = .ok (.iconst 0, 1) := by decide +kernel
theorem d_law_485 : decode code 485 = .ok (.ireturn, 1) := by decide +kernel
theorem d_law_486 : decode code 486 = .ok (.aload_n 1, 1) := by decide +kernel
theorem d_law_487 : decode code 487 = .ok (.aload_n 0, 1) := by decide +kernel
theorem d_law_488 : decode code 488 = .ok (.iload_n 3, 1) := by decide +kernel
theorem d_law_489 : decode code 489 = .ok (.iconst 1, 1) := by decide +kernel
theorem d_law_490 : decode code 490 = .ok (.iadd, 1) := by decide +kernel
theorem d_law_491 : decode code 491 = .ok (.iaload, 1) := by decide +kernel
theorem d_law_492 : decode code 492 = .ok (.invokevirtual 60, 3) := by decide +kernel
theorem d_law_495 : decode code 495 = .ok (.aload_n 2, 1) := by decide +kernel
theorem d_law_496 : decode code 496 = .ok (.aload_n 0, 1) := by decide +kernel
theorem d_law_497 : decode code 497 = .ok (.iload_n 3, 1) := by decide +kernel
theorem d_law_498 : decode code 498 = .ok (.iconst 1, 1) := by decide +kernel
theorem d_law_499 : decode code 499 = .ok (.iadd, 1) := by decide +kernel
theorem d_law_500 : decode code 500 = .ok (.iaload, 1) := by decide +kernel
theorem d_law_501 : decode code 501 = .ok (.invokevirtual 63, 3) := by decide +kernel
theorem d_law_504 : decode code 504 = .ok (.if_icmp .eq 588, 3) := by decide +kernel
theorem d_law_507 : decode code 507 = .ok (.iconst 0, 1) := by decide +kernel
theorem d_law_508 : decode code 508 = .ok (.ireturn, 1) := by decide +kernel
theorem d_law_509 : decode code 509 = .ok (.aload_n 1, 1) := by decide +kernel
theorem d_law_510 : decode code 510 = .ok (.aload_n 0, 1) := by decide +kernel
theorem d_law_511 : decode code 511 = .ok (.iload_n 3, 1) := by decide +kernel
theorem d_law_512 : decode code 512 = .ok (.iconst 1, 1) := by decide +kernel
theorem d_law_513 : decode code 513 = .ok (.iadd, 1) := by decide +kernel
theorem d_law_514 : decode code 514 = .ok (.iaload, 1) := by decide +kernel
theorem d_law_515 : decode code 515 = .ok (.aload_n 0, 1) := by decide +kernel
theorem d_law_516 : decode code 516 = .ok (.iload_n 3, 1) := by decide +kernel
theorem d_law_517 : decode code 517 = .ok (.iconst 2, 1) := by decide +kernel
theorem d_law_518 : decode code 518 = .ok (.iadd, 1) := by decide +kernel
theorem d_law_519 : decode code 519 = .ok (.iaload, 1) := by decide +kernel
theorem d_law_520 : decode code 520 = .ok (.invokevirtual 64, 3) := by decide +kernel
theorem d_law_523 : decode code 523 = .ok (.aload_n 2, 1) := by decide +kernel
theorem d_law_524 : decode code 524 = .ok (.aload_n 0, 1) := by decide +kernel
theorem d_law_525 : decode code 525 = .ok (.iload_n 3, 1) := by decide +kernel
theorem d_law_526 : decode code 526 = .ok (.iconst 1, 1) := by decide +kernel
theorem d_law_527 : decode code 527 = .ok (.iadd, 1) := by decide +kernel
theorem d_law_528 : decode code 528 = .ok (.iaload, 1) := by decide +kernel
theorem d_law_529 : decode code 529 = .ok (.aload_n 0, 1) := by decide +kernel
theorem d_law_530 : decode code 530 = .ok (.iload_n 3, 1) := by decide +kernel
theorem d_law_531 : decode code 531 = .ok (.iconst 2, 1) := by decide +kernel
theorem d_law_532 : decode code 532 = .ok (.iadd, 1) := by decide +kernel
theorem d_law_533 : decode code 533 = .ok (.iaload, 1) := by decide +kernel
theorem d_law_534 : decode code 534 = .ok (.invokevirtual 67, 3) := by decide +kernel
theorem d_law_537 : decode code 537 = .ok (.if_icmp .eq 555, 3) := by decide +kernel
theorem d_law_540 : decode code 540 = .ok (.iconst 0, 1) := by decide +kernel
theorem d_law_541 : decode code 541 = .ok (.ireturn, 1) := by decide +kernel
theorem d_law_542 : decode code 542 = .ok (.aload_n 1, 1) := by decide +kernel
theorem d_law_543 : decode code 543 = .ok (.invokevirtual 68, 3) := by decide +kernel
theorem d_law_546 : decode code 546 = .ok (.aload_n 2, 1) := by decide +kernel
theorem d_law_547 : decode code 547 = .ok (.invokevirtual 71, 3) := by decide +kernel
theorem d_law_550 : decode code 550 = .ok (.if_icmp .eq 542, 3) := by decide +kernel
theorem d_law_553 : decode code 553 = .ok (.iconst 0, 1) := by decide +kernel
theorem d_law_554 : decode code 554 = .ok (.ireturn, 1) := by decide +kernel
theorem d_law_555 : decode code 555 = .ok (.aload_n 1, 1) := by decide +kernel
theorem d_law_556 : decode code 556 = .ok (.aload_n 0, 1) := by decide +kernel
theorem d_law_557 : decode code 557 = .ok (.iload_n 3, 1) := by decide +kernel
theorem d_law_558 : decode code 558 = .ok (.iconst 1, 1) := by decide +kernel
theorem d_law_559 : decode code 559 = .ok (.iadd, 1) := by decide +kernel
theorem d_law_560 : decode code 560 = .ok (.iaload, 1) := by decide +kernel
theorem d_law_561 : decode code 561 = .ok (.invokevirtual 72, 3) := by decide +kernel
theorem d_law_564 : decode code 564 = .ok (.aload_n 2, 1) := by decide +kernel
theorem d_law_565 : decode code 565 = .ok (.aload_n 0, 1) := by decide +kernel
theorem d_law_566 : decode code 566 = .ok (.iload_n 3, 1) := by decide +kernel
theorem d_law_567 : decode code 567 = .ok (.iconst 1, 1) := by decide +kernel
theorem d_law_568 : decode code 568 = .ok (.iadd, 1) := by decide +kernel
theorem d_law_569 : decode code 569 = .ok (.iaload, 1) := by decide +kernel
theorem d_law_570 : decode code 570 = .ok (.invokevirtual 75, 3) := by decide +kernel
theorem d_law_573 : decode code 573 = .ok (.if_icmp .eq 519, 3) := by decide +kernel
theorem d_law_576 : decode code 576 = .ok (.iconst 0, 1) := by decide +kernel
theorem d_law_577 : decode code 577 = .ok (.ireturn, 1) := by decide +kernel
theorem d_law_578 : decode code 578 = .ok (.aload_n 1, 1) := by decide +kernel
theorem d_law_579 : decode code 579 = .ok (.invokevirtual 76, 3) := by decide +kernel
theorem d_law_582 : decode code 582 = .ok (.aload_n 2, 1) := by decide +kernel
theorem d_law_583 : decode code 583 = .ok (.invokevirtual 79, 3) := by decide +kernel
theorem d_law_586 : decode code 586 = .ok (.if_icmp .eq 506, 3) := by decide +kernel
theorem d_law_589 : decode code 589 = .ok (.iconst 0, 1) := by decide +kernel
theorem d_law_590 : decode code 590 = .ok (.ireturn, 1) := by decide +kernel
theorem d_law_591 : decode code 591 = .ok (.aload_n 1, 1) := by decide +kernel
theorem d_law_592 : decode code 592 = .ok (.aload_n 0, 1) := by decide +kernel
theorem d_law_593 : decode code 593 = .ok (.iload_n 3, 1) := by decide +kernel
theorem d_law_594 : decode code 594 = .ok (.iconst 1, 1) := by decide +kernel
theorem d_law_595 : decode code 595 = .ok (.iadd, 1) := by decide +kernel
theorem d_law_596 : decode code 596 = .ok (.iaload, 1) := by decide +kernel
theorem d_law_597 : decode code 597 = .ok (.invokevirtual 80, 3) := by decide +kernel
theorem d_law_600 : decode code 600 = .ok (.aload_n 2, 1) := by decide +kernel
theorem d_law_601 : decode code 601 = .ok (.aload_n 0, 1) := by decide +kernel
theorem d_law_602 : decode code 602 = .ok (.iload_n 3, 1) := by decide +kernel
theorem d_law_603 : decode code 603 = .ok (.iconst 1, 1) := by decide +kernel
theorem d_law_604 : decode code 604 = .ok (.iadd, 1) := by decide +kernel
theorem d_law_605 : decode code 605 = .ok (.iaload, 1) := by decide +kernel
theorem d_law_606 : decode code 606 = .ok (.invokevirtual 83, 3) := by decide +kernel
theorem d_law_609 : decode code 609 = .ok (.if_icmp .eq 483, 3) := by decide +kernel
theorem d_law_612 : decode code 612 = .ok (.iconst 0, 1) := by decide +kernel
theorem d_law_613 : decode code 613 = .ok (.ireturn, 1) := by decide +kernel
theorem d_law_614 : decode code 614 = .ok (.aload_n 1, 1) := by decide +kernel
theorem d_law_615 : decode code 615 = .ok (.aload_n 0, 1) := by decide +kernel
theorem d_law_616 : decode code 616 = .ok (.iload_n 3, 1) := by decide +kernel
theorem d_law_617 : decode code 617 = .ok (.iconst 1, 1) := by decide +kernel
theorem d_law_618 : decode code 618 = .ok (.iadd, 1) := by decide +kernel
theorem d_law_619 : decode code 619 = .ok (.iaload, 1) := by decide +kernel
theorem d_law_620 : decode code 620 = .ok (.invokevirtual 84, 3) := by decide +kernel
theorem d_law_623 : decode code 623 = .ok (.aload_n 2, 1) := by decide +kernel
theorem d_law_624 : decode code 624 = .ok (.aload_n 0, 1) := by decide +kernel
theorem d_law_625 : decode code 625 = .ok (.iload_n 3, 1) := by decide +kernel
theorem d_law_626 : decode code 626 = .ok (.iconst 1, 1) := by decide +kernel
theorem d_law_627 : decode code 627 = .ok (.iadd, 1) := by decide +kernel
theorem d_law_628 : decode code 628 = .ok (.iaload, 1) := by decide +kernel
theorem d_law_629 : decode code 629 = .ok (.invokevirtual 87, 3) := by decide +kernel
theorem d_law_632 : decode code 632 = .ok (.if_icmp .eq 460, 3) := by decide +kernel
theorem d_law_635 : decode code 635 = .ok (.iconst 0, 1) := by decide +kernel
theorem d_law_636 : decode code 636 = .ok (.ireturn, 1) := by decide +kernel
theorem d_law_637 : decode code 637 = .ok (.aload_n 1, 1) := by decide +kernel
theorem d_law_638 : decode code 638 = .ok (.aload_n 0, 1) := by decide +kernel
theorem d_law_639 : decode code 639 = .ok (.iload_n 3, 1) := by decide +kernel
theorem d_law_640 : decode code 640 = .ok (.iconst 1, 1) := by decide +kernel
theorem d_law_641 : decode code 641 = .ok (.iadd, 1) := by decide +kernel
theorem d_law_642 : decode code 642 = .ok (.iaload, 1) := by decide +kernel
theorem d_law_643 : decode code 643 = .ok (.invokevirtual 88, 3) := by decide +kernel
theorem d_law_646 : decode code 646 = .ok (.aload_n 2, 1) := by decide +kernel
theorem d_law_647 : decode code 647 = .ok (.aload_n 0, 1) := by decide +kernel
theorem d_law_648 : decode code 648 = .ok (.iload_n 3, 1) := by decide +kernel
theorem d_law_649 : decode code 649 = .ok (.iconst 1, 1) := by decide +kernel
theorem d_law_650 : decode code 650 = .ok (.iadd, 1) := by decide +kernel
theorem d_law_651 : decode code 651 = .ok (.iaload, 1) := by decide +kernel
theorem d_law_652 : decode code 652 = .ok (.invokevirtual 91, 3) := by decide +kernel
theorem d_law_655 : decode code 655 = .ok (.if_icmp .eq 437, 3) := by decide +kernel
theorem d_law_658 : decode code 658 = .ok (.iconst 0, 1) := by decide +kernel
theorem d_law_659 : decode code 659 = .ok (.ireturn, 1) := by decide +kernel
theorem d_law_660 : decode code 660 = .ok (.aload_n 1, 1) := by decide +kernel
theorem d_law_661 : decode code 661 = .ok (.aload_n 0, 1) := by decide +kernel
theorem d_law_662 : decode code 662 = .ok (.iload_n 3, 1) := by decide +kernel
theorem d_law_663 : decode code 663 = .ok (.iconst 1, 1) := by decide +kernel
theorem d_law_664 : decode code 664 = .ok (.iadd, 1) := by decide +kernel
theorem d_law_665 : decode code 665 = .ok (.iaload, 1) := by decide +kernel
theorem d_law_666 : decode code 666 = .ok (.invokevirtual 92, 3) := by decide +kernel
theorem d_law_669 : decode code 669 = .ok (.aload_n 2, 1) := by decide +kernel
theorem d_law_670 : decode code 670 = .ok (.aload_n 0, 1) := by decide +kernel
theorem d_law_671 : decode code 671 = .ok (.iload_n 3, 1) := by decide +kernel
theorem d_law_672 : decode code 672 = .ok (.iconst 1, 1) := by decide +kernel
theorem d_law_673 : decode code 673 = .ok (.iadd, 1) := by decide +kernel
theorem d_law_674 : decode code 674 = .ok (.iaload, 1) := by decide +kernel
theorem d_law_675 : decode code 675 = .ok (.invokevirtual 95, 3) := by decide +kernel
theorem d_law_678 : decode code 678 = .ok (.if_icmp .eq 414, 3) := by decide +kernel
theorem d_law_681 : decode code 681 = .ok (.iconst 0, 1) := by decide +kernel
theorem d_law_682 : decode code 682 = .ok (.ireturn, 1) := by decide +kernel
theorem d_law_683 : decode code 683 = .ok (.aload_n 1, 1) := by decide +kernel
theorem d_law_684 : decode code 684 = .ok (.aload_n 0, 1) := by decide +kernel
theorem d_law_685 : decode code 685 = .ok (.iload_n 3, 1) := by decide +kernel
theorem d_law_686 : decode code 686 = .ok (.iconst 1, 1) := by decide +kernel
theorem d_law_687 : decode code 687 = .ok (.iadd, 1) := by decide +kernel
theorem d_law_688 : decode code 688 = .ok (.iaload, 1) := by decide +kernel
theorem d_law_689 : decode code 689 = .ok (.invokevirtual 96, 3) := by decide +kernel
theorem d_law_692 : decode code 692 = .ok (.aload_n 2, 1) := by decide +kernel
theorem d_law_693 : decode code 693 = .ok (.aload_n 0, 1) := by decide +kernel
theorem d_law_694 : decode code 694 = .ok (.iload_n 3, 1) := by decide +kernel
theorem d_law_695 : decode code 695 = .ok (.iconst 1, 1) := by decide +kernel
theorem d_law_696 : decode code 696 = .ok (.iadd, 1) := by decide +kernel
theorem d_law_697 : decode code 697 = .ok (.iaload, 1) := by decide +kernel
theorem d_law_698 : decode code 698 = .ok (.invokevirtual 99, 3) := by decide +kernel
theorem d_law_701 : decode code 701 = .ok (.if_icmp .eq 391, 3) := by decide +kernel
theorem d_law_704 : decode code 704 = .ok (.iconst 0, 1) := by decide +kernel
theorem d_law_705 : decode code 705 = .ok (.ireturn, 1) := by decide +kernel
theorem d_law_706 : decode code 706 = .ok (.aload_n 1, 1) := by decide +kernel
theorem d_law_707 : decode code 707 = .ok (.aload_n 0, 1) := by decide +kernel
theorem d_law_708 : decode code 708 = .ok (.iload_n 3, 1) := by decide +kernel
theorem d_law_709 : decode code 709 = .ok (.iconst 1, 1) := by decide +kernel
theorem d_law_710 : decode code 710 = .ok (.iadd, 1) := by decide +kernel
theorem d_law_711 : decode code 711 = .ok (.iaload, 1) := by decide +kernel
theorem d_law_712 : decode code 712 = .ok (.invokevirtual 100, 3) := by decide +kernel
theorem d_law_715 : decode code 715 = .ok (.aload_n 2, 1) := by decide +kernel
theorem d_law_716 : decode code 716 = .ok (.aload_n 0, 1) := by decide +kernel
theorem d_law_717 : decode code 717 = .ok (.iload_n 3, 1) := by decide +kernel
theorem d_law_718 : decode code 718 = .ok (.iconst 1, 1) := by decide +kernel
theorem d_law_719 : decode code 719 = .ok (.iadd, 1) := by decide +kernel
theorem d_law_720 : decode code 720 = .ok (.iaload, 1) := by decide +kernel
theorem d_law_721 : decode code 721 = .ok (.invokevirtual 103, 3) := by decide +kernel
theorem d_law_724 : decode code 724 = .ok (.if_icmp .eq 368, 3) := by decide +kernel
theorem d_law_727 : decode code 727 = .ok (.iconst 0, 1) := by decide +kernel
theorem d_law_728 : decode code 728 = .ok (.ireturn, 1) := by decide +kernel
theorem d_law_729 : decode code 729 = .ok (.aload_n 1, 1) := by decide +kernel
theorem d_law_730 : decode code 730 = .ok (.aload_n 0, 1) := by decide +kernel
theorem d_law_731 : decode code 731 = .ok (.iload_n 3, 1) := by decide +kernel
theorem d_law_732 : decode code 732 = .ok (.iconst 1, 1) := by decide +kernel
theorem d_law_733 : decode code 733 = .ok (.iadd, 1) := by decide +kernel
theorem d_law_734 : decode code 734 = .ok (.iaload, 1) := by decide +kernel
theorem d_law_735 : decode code 735 = .ok (.aload_n 0, 1) := by decide +kernel
theorem d_law_736 : decode code 736 = .ok (.iload_n 3, 1) := by decide +kernel
theorem d_law_737 : decode code 737 = .ok (.iconst 2, 1) := by decide +kernel
theorem d_law_738 : decode code 738 = .ok (.iadd, 1) := by decide +kernel
theorem d_law_739 : decode code 739 = .ok (.iaload, 1) := by decide +kernel
theorem d_law_740 : decode code 740 = .ok (.invokevirtual 104, 3) := by decide +kernel
theorem d_law_743 : decode code 743 = .ok (.aload_n 2, 1) := by decide +kernel
theorem d_law_744 : decode code 744 = .ok (.aload_n 0, 1) := by decide +kernel
theorem d_law_745 : decode code 745 = .ok (.iload_n 3, 1) := by decide +kernel
theorem d_law_746 : decode code 746 = .ok (.iconst 1, 1) := by decide +kernel
theorem d_law_747 : decode code 747 = .ok (.iadd, 1) := by decide +kernel
theorem d_law_748 : decode code 748 = .ok (.iaload, 1) := by decide +kernel
theorem d_law_749 : decode code 749 = .ok (.aload_n 0, 1) := by decide +kernel
theorem d_law_750 : decode code 750 = .ok (.iload_n 3, 1) := by decide +kernel
theorem d_law_751 : decode code 751 = .ok (.iconst 2, 1) := by decide +kernel
theorem d_law_752 : decode code 752 = .ok (.iadd, 1) := by decide +kernel
theorem d_law_753 : decode code 753 = .ok (.iaload, 1) := by decide +kernel
theorem d_law_754 : decode code 754 = .ok (.invokevirtual 107, 3) := by decide +kernel
theorem d_law_757 : decode code 757 = .ok (.if_icmp .eq 335, 3) := by decide +kernel
theorem d_law_760 : decode code 760 = .ok (.iconst 0, 1) := by decide +kernel
theorem d_law_761 : decode code 761 = .ok (.ireturn, 1) := by decide +kernel
theorem d_law_762 : decode code 762 = .ok (.aload_n 1, 1) := by decide +kernel
theorem d_law_763 : decode code 763 = .ok (.invokevirtual 108, 3) := by decide +kernel
theorem d_law_766 : decode code 766 = .ok (.aload_n 2, 1) := by decide +kernel
theorem d_law_767 : decode code 767 = .ok (.invokevirtual 111, 3) := by decide +kernel
theorem d_law_770 : decode code 770 = .ok (.if_icmp .eq 322, 3) := by decide +kernel
theorem d_law_773 : decode code 773 = .ok (.iconst 0, 1) := by decide +kernel
theorem d_law_774 : decode code 774 = .ok (.ireturn, 1) := by decide +kernel
theorem d_law_775 : decode code 775 = .ok (.aload_n 1, 1) := by decide +kernel
theorem d_law_776 : decode code 776 = .ok (.invokevirtual 112, 3) := by decide +kernel
theorem d_law_779 : decode code 779 = .ok (.aload_n 2, 1) := by decide +kernel
theorem d_law_780 : decode code 780 = .ok (.invokevirtual 115, 3) := by decide +kernel
theorem d_law_783 : decode code 783 = .ok (.if_icmp .eq 309, 3) := by decide +kernel
theorem d_law_786 : decode code 786 = .ok (.iconst 0, 1) := by decide +kernel
theorem d_law_787 : decode code 787 = .ok (.ireturn, 1) := by decide +kernel
theorem d_law_788 : decode code 788 = .ok (.aload_n 1, 1) := by decide +kernel
theorem d_law_789 : decode code 789 = .ok (.invokevirtual 116, 3) := by decide +kernel
theorem d_law_792 : decode code 792 = .ok (.aload_n 2, 1) := by decide +kernel
theorem d_law_793 : decode code 793 = .ok (.invokevirtual 119, 3) := by decide +kernel
theorem d_law_796 : decode code 796 = .ok (.if_icmp .eq 296, 3) := by decide +kernel
theorem d_law_799 : decode code 799 = .ok (.iconst 0, 1) := by decide +kernel
theorem d_law_800 : decode code 800 = .ok (.ireturn, 1) := by decide +kernel
theorem d_law_801 : decode code 801 = .ok (.aload_n 1, 1) := by decide +kernel
theorem d_law_802 : decode code 802 = .ok (.invokevirtual 120, 3) := by decide +kernel
theorem d_law_805 : decode code 805 = .ok (.aload_n 2, 1) := by decide +kernel
theorem d_law_806 : decode code 806 = .ok (.invokevirtual 123, 3) := by decide +kernel
theorem d_law_809 : decode code 809 = .ok (.if_icmp .eq 283, 3) := by decide +kernel
theorem d_law_812 : decode code 812 = .ok (.iconst 0, 1) := by decide +kernel
theorem d_law_813 : decode code 813 = .ok (.ireturn, 1) := by decide +kernel
theorem d_law_814 : decode code 814 = .ok (.aload_n 1, 1) := by decide +kernel
theorem d_law_815 : decode code 815 = .ok (.aload_n 0, 1) := by decide +kernel
theorem d_law_816 : decode code 816 = .ok (.iload_n 3, 1) := by decide +kernel
theorem d_law_817 : decode code 817 = .ok (.iconst 1, 1) := by decide +kernel
theorem d_law_818 : decode code 818 = .ok (.iadd, 1) := by decide +kernel
theorem d_law_819 : decode code 819 = .ok (.iaload, 1) := by decide +kernel
theorem d_law_820 : decode code 820 = .ok (.aload_n 0, 1) := by decide +kernel
theorem d_law_821 : decode code 821 = .ok (.iload_n 3, 1) := by decide +kernel
theorem d_law_822 : decode code 822 = .ok (.iconst 2, 1) := by decide +kernel
theorem d_law_823 : decode code 823 = .ok (.iadd, 1) := by decide +kernel
theorem d_law_824 : decode code 824 = .ok (.iaload, 1) := by decide +kernel
theorem d_law_825 : decode code 825 = .ok (.aload_n 0, 1) := by decide +kernel
theorem d_law_826 : decode code 826 = .ok (.iload_n 3, 1) := by decide +kernel
theorem d_law_827 : decode code 827 = .ok (.iconst 3, 1) := by decide +kernel
theorem d_law_828 : decode code 828 = .ok (.iadd, 1) := by decide +kernel
theorem d_law_829 : decode code 829 = .ok (.iaload, 1) := by decide +kernel
theorem d_law_830 : decode code 830 = .ok (.invokevirtual 124, 3) := by decide +kernel
theorem d_law_833 : decode code 833 = .ok (.aload_n 2, 1) := by decide +kernel
theorem d_law_834 : decode code 834 = .ok (.aload_n 0, 1) := by decide +kernel
theorem d_law_835 : decode code 835 = .ok (.iload_n 3, 1) := by decide +kernel
theorem d_law_836 : decode code 836 = .ok (.iconst 1, 1) := by decide +kernel
theorem d_law_837 : decode code 837 = .ok (.iadd, 1) := by decide +kernel
theorem d_law_838 : decode code 838 = .ok (.iaload, 1) := by decide +kernel
theorem d_law_839 : decode code 839 = .ok (.aload_n 0, 1) := by decide +kernel
theorem d_law_840 : decode code 840 = .ok (.iload_n 3, 1) := by decide +kernel
theorem d_law_841 : decode code 841 = .ok (.iconst 2, 1) := by decide +kernel
theorem d_law_842 : decode code 842 = .ok (.iadd, 1) := by decide +kernel
theorem d_law_843 : decode code 843 = .ok (.iaload, 1) := by decide +kernel
theorem d_law_844 : decode code 844 = .ok (.aload_n 0, 1) := by decide +kernel
theorem d_law_845 : decode code 845 = .ok (.iload_n 3, 1) := by decide +kernel
theorem d_law_846 : decode code 846 = .ok (.iconst 3, 1) := by decide +kernel
theorem d_law_847 : decode code 847 = .ok (.iadd, 1) := by decide +kernel
theorem d_law_848 : decode code 848 = .ok (.iaload, 1) := by decide +kernel
theorem d_law_849 : decode code 849 = .ok (.invokevirtual 127, 3) := by decide +kernel
theorem d_law_852 : decode code 852 = .ok (.if_icmp .eq 240, 3) := by decide +kernel
theorem d_law_855 : decode code 855 = .ok (.iconst 0, 1) := by decide +kernel
theorem d_law_856 : decode code 856 = .ok (.ireturn, 1) := by decide +kernel
theorem d_law_857 : decode code 857 = .ok (.aload_n 1, 1) := by decide +kernel
theorem d_law_858 : decode code 858 = .ok (.aload_n 0, 1) := by decide +kernel
theorem d_law_859 : decode code 859 = .ok (.iload_n 3, 1) := by decide +kernel
theorem d_law_860 : decode code 860 = .ok (.iconst 1, 1) := by decide +kernel
theorem d_law_861 : decode code 861 = .ok (.iadd, 1) := by decide +kernel
theorem d_law_862 : decode code 862 = .ok (.iaload, 1) := by decide +kernel
theorem d_law_863 : decode code 863 = .ok (.aload_n 0, 1) := by decide +kernel
theorem d_law_864 : decode code 864 = .ok (.iload_n 3, 1) := by decide +kernel
theorem d_law_865 : decode code 865 = .ok (.iconst 2, 1) := by decide +kernel
theorem d_law_866 : decode code 866 = .ok (.iadd, 1) := by decide +kernel
theorem d_law_867 : decode code 867 = .ok (.iaload, 1) := by decide +kernel
theorem d_law_868 : decode code 868 = .ok (.aload_n 0, 1) := by decide +kernel
theorem d_law_869 : decode code 869 = .ok (.iload_n 3, 1) := by decide +kernel
theorem d_law_870 : decode code 870 = .ok (.iconst 3, 1) := by decide +kernel
theorem d_law_871 : decode code 871 = .ok (.iadd, 1) := by decide +kernel
theorem d_law_872 : decode code 872 = .ok (.iaload, 1) := by decide +kernel
theorem d_law_873 : decode code 873 = .ok (.aload_n 0, 1) := by decide +kernel
theorem d_law_874 : decode code 874 = .ok (.iload_n 3, 1) := by decide +kernel
theorem d_law_875 : decode code 875 = .ok (.iconst 4, 1) := by decide +kernel
theorem d_law_876 : decode code 876 = .ok (.iadd, 1) := by decide +kernel
theorem d_law_877 : decode code 877 = .ok (.iaload, 1) := by decide +kernel
theorem d_law_878 : decode code 878 = .ok (.invokevirtual 128, 3) := by decide +kernel
theorem d_law_881 : decode code 881 = .ok (.aload_n 2, 1) := by decide +kernel
theorem d_law_882 : decode code 882 = .ok (.aload_n 0, 1) := by decide +kernel
theorem d_law_883 : decode code 883 = .ok (.iload_n 3, 1) := by decide +kernel
theorem d_law_884 : decode code 884 = .ok (.iconst 1, 1) := by decide +kernel
theorem d_law_885 : decode code 885 = .ok (.iadd, 1) := by decide +kernel
theorem d_law_886 : decode code 886 = .ok (.iaload, 1) := by decide +kernel
theorem d_law_887 : decode code 887 = .ok (.aload_n 0, 1) := by decide +kernel
theorem d_law_888 : decode code 888 = .ok (.iload_n 3, 1) := by decide +kernel
theorem d_law_889 : decode code 889 = .ok (.iconst 2, 1) := by decide +kernel
theorem d_law_890 : decode code 890 = .ok (.iadd, 1) := by decide +kernel
theorem d_law_891 : decode code 891 = .ok (.iaload, 1) := by decide +kernel
theorem d_law_892 : decode code 892 = .ok (.aload_n 0, 1) := by decide +kernel
theorem d_law_893 : decode code 893 = .ok (.iload_n 3, 1) := by decide +kernel
theorem d_law_894 : decode code 894 = .ok (.iconst 3, 1) := by decide +kernel
theorem d_law_895 : decode code 895 = .ok (.iadd, 1) := by decide +kernel
theorem d_law_896 : decode code 896 = .ok (.iaload, 1) := by decide +kernel
theorem d_law_897 : decode code 897 = .ok (.aload_n 0, 1) := by decide +kernel
theorem d_law_898 : decode code 898 = .ok (.iload_n 3, 1) := by decide +kernel
theorem d_law_899 : decode code 899 = .ok (.iconst 4, 1) := by decide +kernel
theorem d_law_900 : decode code 900 = .ok (.iadd, 1) := by decide +kernel
theorem d_law_901 : decode code 901 = .ok (.iaload, 1) := by decide +kernel
theorem d_law_902 : decode code 902 = .ok (.invokevirtual 132, 3) := by decide +kernel
theorem d_law_905 : decode code 905 = .ok (.if_icmp .eq 187, 3) := by decide +kernel
theorem d_law_908 : decode code 908 = .ok (.iconst 0, 1) := by decide +kernel
theorem d_law_909 : decode code 909 = .ok (.ireturn, 1) := by decide +kernel
theorem d_law_910 : decode code 910 = .ok (.aload_n 1, 1) := by decide +kernel
theorem d_law_911 : decode code 911 = .ok (.aload_n 0, 1) := by decide +kernel
theorem d_law_912 : decode code 912 = .ok (.iload_n 3, 1) := by decide +kernel
theorem d_law_913 : decode code 913 = .ok (.iconst 1, 1) := by decide +kernel
theorem d_law_914 : decode code 914 = .ok (.iadd, 1) := by decide +kernel
theorem d_law_915 : decode code 915 = .ok (.iaload, 1) := by decide +kernel
theorem d_law_916 : decode code 916 = .ok (.aload_n 0, 1) := by decide +kernel
theorem d_law_917 : decode code 917 = .ok (.iload_n 3, 1) := by decide +kernel
theorem d_law_918 : decode code 918 = .ok (.iconst 2, 1) := by decide +kernel
theorem d_law_919 : decode code 919 = .ok (.iadd, 1) := by decide +kernel
theorem d_law_920 : decode code 920 = .ok (.iaload, 1) := by decide +kernel
theorem d_law_921 : decode code 921 = .ok (.aload_n 0, 1) := by decide +kernel
theorem d_law_922 : decode code 922 = .ok (.iload_n 3, 1) := by decide +kernel
theorem d_law_923 : decode code 923 = .ok (.iconst 3, 1) := by decide +kernel
theorem d_law_924 : decode code 924 = .ok (.iadd, 1) := by decide +kernel
theorem d_law_925 : decode code 925 = .ok (.iaload, 1) := by decide +kernel
theorem d_law_926 : decode code 926 = .ok (.invokevirtual 133, 3) := by decide +kernel
theorem d_law_929 : decode code 929 = .ok (.aload_n 2, 1) := by decide +kernel
theorem d_law_930 : decode code 930 = .ok (.aload_n 0, 1) := by decide +kernel
theorem d_law_931 : decode code 931 = .ok (.iload_n 3, 1) := by decide +kernel
theorem d_law_932 : decode code 932 = .ok (.iconst 1, 1) := by decide +kernel
theorem d_law_933 : decode code 933 = .ok (.iadd, 1) := by decide +kernel
theorem d_law_934 : decode code 934 = .ok (.iaload, 1) := by decide +kernel
theorem d_law_935 : decode code 935 = .ok (.aload_n 0, 1) := by decide +kernel
theorem d_law_936 : decode code 936 = .ok (.iload_n 3, 1) := by decide +kernel
theorem d_law_937 : decode code 937 = .ok (.iconst 2, 1) := by decide +kernel
theorem d_law_938 : decode code 938 = .ok (.iadd, 1) := by decide +kernel
theorem d_law_939 : decode code 939 = .ok (.iaload, 1) := by decide +kernel
theorem d_law_940 : decode code 940 = .ok (.aload_n 0, 1) := by decide +kernel
theorem d_law_941 : decode code 941 = .ok (.iload_n 3, 1) := by decide +kernel
theorem d_law_942 : decode code 942 = .ok (.iconst 3, 1) := by decide +kernel
theorem d_law_943 : decode code 943 = .ok (.iadd, 1) := by decide +kernel
theorem d_law_944 : decode code 944 = .ok (.iaload, 1) := by decide +kernel
theorem d_law_945 : decode code 945 = .ok (.invokevirtual 136, 3) := by decide +kernel
theorem d_law_948 : decode code 948 = .ok (.if_icmp .eq 144, 3) := by decide +kernel
theorem d_law_951 : decode code 951 = .ok (.iconst 0, 1) := by decide +kernel
theorem d_law_952 : decode code 952 = .ok (.ireturn, 1) := by decide +kernel
theorem d_law_953 : decode code 953 = .ok (.aload_n 1, 1) := by decide +kernel
theorem d_law_954 : decode code 954 = .ok (.aload_n 0, 1) := by decide +kernel
theorem d_law_955 : decode code 955 = .ok (.iload_n 3, 1) := by decide +kernel
theorem d_law_956 : decode code 956 = .ok (.iconst 1, 1) := by decide +kernel
theorem d_law_957 : decode code 957 = .ok (.iadd, 1) := by decide +kernel
theorem d_law_958 : decode code 958 = .ok (.iaload, 1) := by decide +kernel
theorem d_law_959 : decode code 959 = .ok (.invokevirtual 137, 3) := by decide +kernel
theorem d_law_962 : decode code 962 = .ok (.aload_n 2, 1) := by decide +kernel
theorem d_law_963 : decode code 963 = .ok (.aload_n 0, 1) := by decide +kernel
theorem d_law_964 : decode code 964 = .ok (.iload_n 3, 1) := by decide +kernel
theorem d_law_965 : decode code 965 = .ok (.iconst 1, 1) := by decide +kernel
theorem d_law_966 : decode code 966 = .ok (.iadd, 1) := by decide +kernel
theorem d_law_967 : decode code 967 = .ok (.iaload, 1) := by decide +kernel
theorem d_law_968 : decode code 968 = .ok (.invokevirtual 140, 3) := by decide +kernel
theorem d_law_971 : decode code 971 = .ok (.if_icmp .eq 121, 3) := by decide +kernel
theorem d_law_974 : decode code 974 = .ok (.iconst 0, 1) := by decide +kernel
theorem d_law_975 : decode code 975 = .ok (.ireturn, 1) := by decide +kernel
theorem d_law_976 : decode code 976 = .ok (.aload_n 1, 1) := by decide +kernel
theorem d_law_977 : decode code 977 = .ok (.aload_n 0, 1) := by decide +kernel
theorem d_law_978 : decode code 978 = .ok (.iload_n 3, 1) := by decide +kernel
theorem d_law_979 : decode code 979 = .ok (.iconst 1, 1) := by decide +kernel
theorem d_law_980 : decode code 980 = .ok (.iadd, 1) := by decide +kernel
theorem d_law_981 : decode code 981 = .ok (.iaload, 1) := by decide +kernel
theorem d_law_982 : decode code 982 = .ok (.aload_n 0, 1) := by decide +kernel
theorem d_law_983 : decode code 983 = .ok (.iload_n 3, 1) := by decide +kernel
theorem d_law_984 : decode code 984 = .ok (.iconst 2, 1) := by decide +kernel
theorem d_law_985 : decode code 985 = .ok (.iadd, 1) := by decide +kernel
theorem d_law_986 : decode code 986 = .ok (.iaload, 1) := by decide +kernel
theorem d_law_987 : decode code 987 = .ok (.aload_n 0, 1) := by decide +kernel
theorem d_law_988 : decode code 988 = .ok (.iload_n 3, 1) := by decide +kernel
theorem d_law_989 : decode code 989 = .ok (.iconst 3, 1) := by decide +kernel
theorem d_law_990 : decode code 990 = .ok (.iadd, 1) := by decide +kernel
theorem d_law_991 : decode code 991 = .ok (.iaload, 1) := by decide +kernel
theorem d_law_992 : decode code 992 = .ok (.aload_n 0, 1) := by decide +kernel
theorem d_law_993 : decode code 993 = .ok (.iload_n 3, 1) := by decide +kernel
theorem d_law_994 : decode code 994 = .ok (.iconst 4, 1) := by decide +kernel
theorem d_law_995 : decode code 995 = .ok (.iadd, 1) := by decide +kernel
theorem d_law_996 : decode code 996 = .ok (.iaload, 1) := by decide +kernel
theorem d_law_997 : decode code 997 = .ok (.invokevirtual 141, 3) := by decide +kernel
theorem d_law_1000 : decode code 1000 = .ok (.aload_n 2, 1) := by decide +kernel
theorem d_law_1001 : decode code 1001 = .ok (.aload_n 0, 1) := by decide +kernel
theorem d_law_1002 : decode code 1002 = .ok (.iload_n 3, 1) := by decide +kernel
theorem d_law_1003 : decode code 1003 = .ok (.iconst 1, 1) := by decide +kernel
theorem d_law_1004 : decode code 1004 = .ok (.iadd, 1) := by decide +kernel
theorem d_law_1005 : decode code 1005 = .ok (.iaload, 1) := by decide +kernel
theorem d_law_1006 : decode code 1006 = .ok (.aload_n 0, 1) := by decide +kernel
theorem d_law_1007 : decode code 1007 = .ok (.iload_n 3, 1) := by decide +kernel
theorem d_law_1008 : decode code 1008 = .ok (.iconst 2, 1) := by decide +kernel
theorem d_law_1009 : decode code 1009 = .ok (.iadd, 1) := by decide +kernel
theorem d_law_1010 : decode code 1010 = .ok (.iaload, 1) := by decide +kernel
theorem d_law_1011 : decode code 1011 = .ok (.aload_n 0, 1) := by decide +kernel
theorem d_law_1012 : decode code 1012 = .ok (.iload_n 3, 1) := by decide +kernel
theorem d_law_1013 : decode code 1013 = .ok (.iconst 3, 1) := by decide +kernel
theorem d_law_1014 : decode code 1014 = .ok (.iadd, 1) := by decide +kernel
theorem d_law_1015 : decode code 1015 = .ok (.iaload, 1) := by decide +kernel
theorem d_law_1016 : decode code 1016 = .ok (.aload_n 0, 1) := by decide +kernel
theorem d_law_1017 : decode code 1017 = .ok (.iload_n 3, 1) := by decide +kernel
theorem d_law_1018 : decode code 1018 = .ok (.iconst 4, 1) := by decide +kernel
theorem d_law_1019 : decode code 1019 = .ok (.iadd, 1) := by decide +kernel
theorem d_law_1020 : decode code 1020 = .ok (.iaload, 1) := by decide +kernel
theorem d_law_1021 : decode code 1021 = .ok (.invokevirtual 144, 3) := by decide +kernel
theorem d_law_1024 : decode code 1024 = .ok (.if_icmp .eq 68, 3) := by decide +kernel
theorem d_law_1027 : decode code 1027 = .ok (.iconst 0, 1) := by decide +kernel
theorem d_law_1028 : decode code 1028 = .ok (.ireturn, 1) := by decide +kernel
theorem d_law_1029 : decode code 1029 = .ok (.aload_n 1, 1) := by decide +kernel
theorem d_law_1030 : decode code 1030 = .ok (.aload_n 0, 1) := by decide +kernel
theorem d_law_1031 : decode code 1031 = .ok (.iload_n 3, 1) := by decide +kernel
theorem d_law_1032 : decode code 1032 = .ok (.iconst 1, 1) := by decide +kernel
theorem d_law_1033 : decode code 1033 = .ok (.iadd, 1) := by decide +kernel
theorem d_law_1034 : decode code 1034 = .ok (.iaload, 1) := by decide +kernel
theorem d_law_1035 : decode code 1035 = .ok (.aload_n 0, 1) := by decide +kernel
theorem d_law_1036 : decode code 1036 = .ok (.iload_n 3, 1) := by decide +kernel
theorem d_law_1037 : decode code 1037 = .ok (.iconst 2, 1) := by decide +kernel
theorem d_law_1038 : decode code 1038 = .ok (.iadd, 1) := by decide +kernel
theorem d_law_1039 : decode code 1039 = .ok (.iaload, 1) := by decide +kernel
theorem d_law_1040 : decode code 1040 = .ok (.aload_n 0, 1) := by decide +kernel
theorem d_law_1041 : decode code 1041 = .ok (.iload_n 3, 1) := by decide +kernel
theorem d_law_1042 : decode code 1042 = .ok (.iconst 3, 1) := by decide +kernel
theorem d_law_1043 : decode code 1043 = .ok (.iadd, 1) := by decide +kernel
theorem d_law_1044 : decode code 1044 = .ok (.iaload, 1) := by decide +kernel
theorem d_law_1045 : decode code 1045 = .ok (.aload_n 0, 1) := by decide +kernel
theorem d_law_1046 : decode code 1046 = .ok (.iload_n 3, 1) := by decide +kernel
theorem d_law_1047 : decode code 1047 = .ok (.iconst 4, 1) := by decide +kernel
theorem d_law_1048 : decode code 1048 = .ok (.iadd, 1) := by decide +kernel
theorem d_law_1049 : decode code 1049 = .ok (.iaload, 1) := by decide +kernel
theorem d_law_1050 : decode code 1050 = .ok (.aload_n 0, 1) := by decide +kernel
theorem d_law_1051 : decode code 1051 = .ok (.iload_n 3, 1) := by decide +kernel
theorem d_law_1052 : decode code 1052 = .ok (.iconst 5, 1) := by decide +kernel
theorem d_law_1053 : decode code 1053 = .ok (.iadd, 1) := by decide +kernel
theorem d_law_1054 : decode code 1054 = .ok (.iaload, 1) := by decide +kernel
theorem d_law_1055 : decode code 1055 = .ok (.invokevirtual 145, 3) := by decide +kernel
theorem d_law_1058 : decode code 1058 = .ok (.aload_n 2, 1) := by decide +kernel
theorem d_law_1059 : decode code 1059 = .ok (.aload_n 0, 1) := by decide +kernel
theorem d_law_1060 : decode code 1060 = .ok (.iload_n 3, 1) := by decide +kernel
theorem d_law_1061 : decode code 1061 = .ok (.iconst 1, 1) := by decide +kernel
theorem d_law_1062 : decode code 1062 = .ok (.iadd, 1) := by decide +kernel
theorem d_law_1063 : decode code 1063 = .ok (.iaload, 1) := by decide +kernel
theorem d_law_1064 : decode code 1064 = .ok (.aload_n 0, 1) := by decide +kernel
theorem d_law_1065 : decode code 1065 = .ok (.iload_n 3, 1) := by decide +kernel
theorem d_law_1066 : decode code 1066 = .ok (.iconst 2, 1) := by decide +kernel
theorem d_law_1067 : decode code 1067 = .ok (.iadd, 1) := by decide +kernel
theorem d_law_1068 : decode code 1068 = .ok (.iaload, 1) := by decide +kernel
theorem d_law_1069 : decode code 1069 = .ok (.aload_n 0, 1) := by decide +kernel
theorem d_law_1070 : decode code 1070 = .ok (.iload_n 3, 1) := by decide +kernel
theorem d_law_1071 : decode code 1071 = .ok (.iconst 3, 1) := by decide +kernel
theorem d_law_1072 : decode code 1072 = .ok (.iadd, 1) := by decide +kernel
theorem d_law_1073 : decode code 1073 = .ok (.iaload, 1) := by decide +kernel
theorem d_law_1074 : decode code 1074 = .ok (.aload_n 0, 1) := by decide +kernel
theorem d_law_1075 : decode code 1075 = .ok (.iload_n 3, 1) := by decide +kernel
theorem d_law_1076 : decode code 1076 = .ok (.iconst 4, 1) := by decide +kernel
theorem d_law_1077 : decode code 1077 = .ok (.iadd, 1) := by decide +kernel
theorem d_law_1078 : decode code 1078 = .ok (.iaload, 1) := by decide +kernel
theorem d_law_1079 : decode code 1079 = .ok (.aload_n 0, 1) := by decide +kernel
theorem d_law_1080 : decode code 1080 = .ok (.iload_n 3, 1) := by decide +kernel
theorem d_law_1081 : decode code 1081 = .ok (.iconst 5, 1) := by decide +kernel
theorem d_law_1082 : decode code 1082 = .ok (.iadd, 1) := by decide +kernel
theorem d_law_1083 : decode code 1083 = .ok (.iaload, 1) := by decide +kernel
theorem d_law_1084 : decode code 1084 = .ok (.invokevirtual 149, 3) := by decide +kernel
theorem d_law_1087 : decode code 1087 = .ok (.if_icmp .eq 5, 3) := by decide +kernel
theorem d_law_1090 : decode code 1090 = .ok (.iconst 0, 1) := by decide +kernel
theorem d_law_1091 : decode code 1091 = .ok (.ireturn, 1) := by decide +kernel
theorem d_law_1092 : decode code 1092 = .ok (.iinc 3 6, 3) := by decide +kernel
theorem d_law_1095 : decode code 1095 = .ok (.goto (-1077), 3) := by decide +kernel
theorem d_law_1098 : decode code 1098 = .ok (.iconst 1, 1) := by decide +kernel
theorem d_law_1099 : decode code 1099 = .ok (.ireturn, 1) := by decide +kernel
theorem wl_n0 (n : Nat) : nI (6 * n) = nI (6 * n + 0) := rfl
theorem wl_n1 (n : Nat) : nI (6 * n) + 1 = nI (6 * n + 1) := nI_add (6 * n) 1
theorem wl_n2 (n : Nat) : nI (6 * n) + 2 = nI (6 * n + 2) := nI_add (6 * n) 2
theorem wl_n3 (n : Nat) : nI (6 * n) + 3 = nI (6 * n + 3) := nI_add (6 * n) 3
theorem wl_n4 (n : Nat) : nI (6 * n) + 4 = nI (6 * n + 4) := nI_add (6 * n) 4
theorem wl_n5 (n : Nat) : nI (6 * n) + 5 = nI (6 * n + 5) := nI_add (6 * n) 5
theorem mv_L_13 : fw_MV "FewTypesLaw" 13 Y_X_cast 8 3 := ⟨fw_m 353 (by decide +kernel) (by decide +kernel), fw_m 354 (by decide +kernel) (by decide +kernel), fw_m 355 (by decide +kernel) (by decide +kernel), fw_m 59 (by decide +kernel) (by decide +kernel), fw_m 356 (by decide +kernel) (by decide +kernel), ⟨by decide +kernel, by decide +kernel, by decide +kernel⟩, by decide, _, _, rfl⟩
theorem mv_L_17 : fw_MV "FewTypesLaw" 17 Y_M_cast 9 3 := ⟨fw_m 966 (by decide +kernel) (by decide +kernel), fw_m 967 (by decide +kernel) (by decide +kernel), fw_m 968 (by decide +kernel) (by decide +kernel), fw_m 70 (by decide +kernel) (by decide +kernel), fw_m 969 (by decide +kernel) (by decide +kernel), ⟨by decide +kernel, by decide +kernel, by decide +kernel⟩, by decide, _, _, rfl⟩
theorem mv_L_18 : fw_MV "FewTypesLaw" 18 Y_X_told 8 2 := ⟨fw_m 372 (by decide +kernel) (by decide +kernel), fw_m 373 (by decide +kernel) (by decide +kernel), fw_m 374 (by decide +kernel) (by decide +kernel), fw_m 59 (by decide +kernel) (by decide +kernel), fw_m 375 (by decide +kernel) (by decide +kernel), ⟨by decide +kernel, by decide +kernel, by decide +kernel⟩, by decide, _, _, rfl⟩
theorem mv_L_22 : fw_MV "FewTypesLaw" 22 Y_M_told 9 2 := ⟨fw_m 985 (by decide +kernel) (by decide +kernel), fw_m 986 (by decide +kernel) (by decide +kernel), fw_m 987 (by decide +kernel) (by decide +kernel), fw_m 70 (by decide +kernel) (by decide +kernel), fw_m 988 (by decide +kernel) (by decide +kernel), ⟨by decide +kernel, by decide +kernel, by decide +kernel⟩, by decide, _, _, rfl⟩
theorem mv_L_23 : fw_MV "FewTypesLaw" 23 Y_X_lose 8 1 := ⟨fw_m 380 (by decide +kernel) (by decide +kernel), fw_m 381 (by decide +kernel) (by decide +kernel), fw_m 382 (by decide +kernel) (by decide +kernel), fw_m 59 (by decide +kernel) (by decide +kernel), fw_m 383 (by decide +kernel) (by decide +kernel), ⟨by decide +kernel, by decide +kernel, by decide +kernel⟩, by decide, _, _, rfl⟩
theorem mv_L_27 : fw_MV "FewTypesLaw" 27 Y_M_lose 9 1 := ⟨fw_m 994 (by decide +kernel) (by decide +kernel), fw_m 995 (by decide +kernel) (by decide +kernel), fw_m 996 (by decide +kernel) (by decide +kernel), fw_m 70 (by decide +kernel) (by decide +kernel), fw_m 997 (by decide +kernel) (by decide +kernel), ⟨by decide +kernel, by decide +kernel, by decide +kernel⟩, by decide, _, _, rfl⟩
theorem mv_L_28 : fw_MV "FewTypesLaw" 28 Y_X_width 8 2 := ⟨fw_m 389 (by decide +kernel) (by decide +kernel), fw_m 390 (by decide +kernel) (by decide +kernel), fw_m 391 (by decide +kernel) (by decide +kernel), fw_m 59 (by decide +kernel) (by decide +kernel), fw_m 392 (by decide +kernel) (by decide +kernel), ⟨by decide +kernel, by decide +kernel, by decide +kernel⟩, by decide, _, _, rfl⟩
theorem mv_L_31 : fw_MV "FewTypesLaw" 31 Y_M_width 9 2 := ⟨fw_m 1002 (by decide +kernel) (by decide +kernel), fw_m 1003 (by decide +kernel) (by decide +kernel), fw_m 1004 (by decide +kernel) (by decide +kernel), fw_m 70 (by decide +kernel) (by decide +kernel), fw_m 1005 (by decide +kernel) (by decide +kernel), ⟨by decide +kernel, by decide +kernel, by decide +kernel⟩, by decide, _, _, rfl⟩
theorem mv_L_32 : fw_MV "FewTypesLaw" 32 Y_X_rule 8 2 := ⟨fw_m 394 (by decide +kernel) (by decide +kernel), fw_m 395 (by decide +kernel) (by decide +kernel), fw_m 396 (by decide +kernel) (by decide +kernel), fw_m 59 (by decide +kernel) (by decide +kernel), fw_m 397 (by decide +kernel) (by decide +kernel), ⟨by decide +kernel, by decide +kernel, by decide +kernel⟩, by decide, _, _, rfl⟩
theorem mv_L_35 : fw_MV "FewTypesLaw" 35 Y_M_rule 9 2 := ⟨fw_m 1007 (by decide +kernel) (by decide +kernel), fw_m 1008 (by decide +kernel) (by decide +kernel), fw_m 1009 (by decide +kernel) (by decide +kernel), fw_m 70 (by decide +kernel) (by decide +kernel), fw_m 1010 (by decide +kernel) (by decide +kernel), ⟨by decide +kernel, by decide +kernel, by decide +kernel⟩, by decide, _, _, rfl⟩
theorem cl_L_36 : Cond.constantLong "FewTypesLaw" 36 4294967295 ∈ fw_tb := fw_m 1229 (by decide +kernel) (by decide +kernel)
theorem mv_L_38 : fw_MV "FewTypesLaw" 38 Y_X_type 8 2 := ⟨fw_m 402 (by decide +kernel) (by decide +kernel), fw_m 403 (by decide +kernel) (by decide +kernel), fw_m 404 (by decide +kernel) (by decide +kernel), fw_m 59 (by decide +kernel) (by decide +kernel), fw_m 405 (by decide +kernel) (by decide +kernel), ⟨by decide +kernel, by decide +kernel, by decide +kernel⟩, by decide, _, _, rfl⟩
theorem mv_L_42 : fw_MV "FewTypesLaw" 42 Y_M_type 9 2 := ⟨fw_m 1012 (by decide +kernel) (by decide +kernel), fw_m 1013 (by decide +kernel) (by decide +kernel), fw_m 1014 (by decide +kernel) (by decide +kernel), fw_m 70 (by decide +kernel) (by decide +kernel), fw_m 1015 (by decide +kernel) (by decide +kernel), ⟨by decide +kernel, by decide +kernel, by decide +kernel⟩, by decide, _, _, rfl⟩
theorem mv_L_43 : fw_MV "FewTypesLaw" 43 Y_X_line 8 0 := ⟨fw_m 417 (by decide +kernel) (by decide +kernel), fw_m 418 (by decide +kernel) (by decide +kernel), fw_m 419 (by decide +kernel) (by decide +kernel), fw_m 59 (by decide +kernel) (by decide +kernel), fw_m 420 (by decide +kernel) (by decide +kernel), ⟨by decide +kernel, by decide +kernel, by decide +kernel⟩, by decide, _, _, rfl⟩
theorem mv_L_47 : fw_MV "FewTypesLaw" 47 Y_M_line 9 0 := ⟨fw_m 1020 (by decide +kernel) (by decide +kernel), fw_m 1021 (by decide +kernel) (by decide +kernel), fw_m 1022 (by decide +kernel) (by decide +kernel), fw_m 70 (by decide +kernel) (by decide +kernel), fw_m 1023 (by decide +kernel) (by decide +kernel), ⟨by decide +kernel, by decide +kernel, by decide +kernel⟩, by decide, _, _, rfl⟩
theorem mv_L_48 : fw_MV "FewTypesLaw" 48 Y_X_types 8 0 := ⟨fw_m 447 (by decide +kernel) (by decide +kernel), fw_m 448 (by decide +kernel) (by decide +kernel), fw_m 449 (by decide +kernel) (by decide +kernel), fw_m 59 (by decide +kernel) (by decide +kernel), fw_m 450 (by decide +kernel) (by decide +kernel), ⟨by decide +kernel, by decide +kernel, by decide +kernel⟩, by decide, _, _, rfl⟩
theorem mv_L_51 : fw_MV "FewTypesLaw" 51 Y_M_types 9 0 := ⟨fw_m 1036 (by decide +kernel) (by decide +kernel), fw_m 1037 (by decide +kernel) (by decide +kernel), fw_m 1038 (by decide +kernel) (by decide +kernel), fw_m 70 (by decide +kernel) (by decide +kernel), fw_m 1039 (by decide +kernel) (by decide +kernel), ⟨by decide +kernel, by decide +kernel, by decide +kernel⟩, by decide, _, _, rfl⟩
theorem mv_L_52 : fw_MV "FewTypesLaw" 52 Y_X_place 8 2 := ⟨fw_m 469 (by decide +kernel) (by decide +kernel), fw_m 470 (by decide +kernel) (by decide +kernel), fw_m 471 (by decide +kernel) (by decide +kernel), fw_m 59 (by decide +kernel) (by decide +kernel), fw_m 472 (by decide +kernel) (by decide +kernel), ⟨by decide +kernel, by decide +kernel, by decide +kernel⟩, by decide, _, _, rfl⟩
theorem mv_L_55 : fw_MV "FewTypesLaw" 55 Y_M_place 9 2 := ⟨fw_m 1044 (by decide +kernel) (by decide +kernel), fw_m 1045 (by decide +kernel) (by decide +kernel), fw_m 1046 (by decide +kernel) (by decide +kernel), fw_m 70 (by decide +kernel) (by decide +kernel), fw_m 1047 (by decide +kernel) (by decide +kernel), ⟨by decide +kernel, by decide +kernel, by decide +kernel⟩, by decide, _, _, rfl⟩
theorem mv_L_56 : fw_MV "FewTypesLaw" 56 Y_X_count 8 1 := ⟨fw_m 489 (by decide +kernel) (by decide +kernel), fw_m 490 (by decide +kernel) (by decide +kernel), fw_m 491 (by decide +kernel) (by decide +kernel), fw_m 59 (by decide +kernel) (by decide +kernel), fw_m 492 (by decide +kernel) (by decide +kernel), ⟨by decide +kernel, by decide +kernel, by decide +kernel⟩, by decide, _, _, rfl⟩
theorem mv_L_59 : fw_MV "FewTypesLaw" 59 Y_M_count 9 1 := ⟨fw_m 1056 (by decide +kernel) (by decide +kernel), fw_m 1057 (by decide +kernel) (by decide +kernel), fw_m 1058 (by decide +kernel) (by decide +kernel), fw_m 70 (by decide +kernel) (by decide +kernel), fw_m 1059 (by decide +kernel) (by decide +kernel), ⟨by decide +kernel, by decide +kernel, by decide +kernel⟩, by decide, _, _, rfl⟩
theorem mv_L_60 : fw_MV "FewTypesLaw" 60 Y_X_can 8 1 := ⟨fw_m 498 (by decide +kernel) (by decide +kernel), fw_m 499 (by decide +kernel) (by decide +kernel), fw_m 500 (by decide +kernel) (by decide +kernel), fw_m 59 (by decide +kernel) (by decide +kernel), fw_m 501 (by decide +kernel) (by decide +kernel), ⟨by decide +kernel, by decide +kernel, by decide +kernel⟩, by decide, _, _, rfl⟩
theorem mv_L_63 : fw_MV "FewTypesLaw" 63 Y_M_can 9 1 := ⟨fw_m 1060 (by decide +kernel) (by decide +kernel), fw_m 1061 (by decide +kernel) (by decide +kernel), fw_m 1062 (by decide +kernel) (by decide +kernel), fw_m 70 (by decide +kernel) (by decide +kernel), fw_m 1063 (by decide +kernel) (by decide +kernel), ⟨by decide +kernel, by decide +kernel, by decide +kernel⟩, by decide, _, _, rfl⟩
theorem mv_L_64 : fw_MV "FewTypesLaw" 64 Y_X_by 8 2 := ⟨fw_m 569 (by decide +kernel) (by decide +kernel), fw_m 570 (by decide +kernel) (by decide +kernel), fw_m 571 (by decide +kernel) (by decide +kernel), fw_m 59 (by decide +kernel) (by decide +kernel), fw_m 572 (by decide +kernel) (by decide +kernel), ⟨by decide +kernel, by decide +kernel, by decide +kernel⟩, by decide, _, _, rfl⟩
theorem mv_L_67 : fw_MV "FewTypesLaw" 67 Y_M_by 9 2 := ⟨fw_m 1084 (by decide +kernel) (by decide +kernel), fw_m 1085 (by decide +kernel) (by decide +kernel), fw_m 1086 (by decide +kernel) (by decide +kernel), fw_m 70 (by decide +kernel) (by decide +kernel), fw_m 1087 (by decide +kernel) (by decide +kernel), ⟨by decide +kernel, by decide +kernel, by decide +kernel⟩, by decide, _, _, rfl⟩
theorem mv_L_68 : fw_MV "FewTypesLaw" 68 Y_X_fewest 8 0 := ⟨fw_m 583 (by decide +kernel) (by decide +kernel), fw_m 584 (by decide +kernel) (by decide +kernel), fw_m 585 (by decide +kernel) (by decide +kernel), fw_m 59 (by decide +kernel) (by decide +kernel), fw_m 586 (by decide +kernel) (by decide +kernel), ⟨by decide +kernel, by decide +kernel, by decide +kernel⟩, by decide, _, _, rfl⟩
theorem mv_L_71 : fw_MV "FewTypesLaw" 71 Y_M_fewest 9 0 := ⟨fw_m 1100 (by decide +kernel) (by decide +kernel), fw_m 1101 (by decide +kernel) (by decide +kernel), fw_m 1102 (by decide +kernel) (by decide +kernel), fw_m 70 (by decide +kernel) (by decide +kernel), fw_m 1103 (by decide +kernel) (by decide +kernel), ⟨by decide +kernel, by decide +kernel, by decide +kernel⟩, by decide, _, _, rfl⟩
theorem mv_L_72 : fw_MV "FewTypesLaw" 72 Y_X_plan 8 1 := ⟨fw_m 641 (by decide +kernel) (by decide +kernel), fw_m 642 (by decide +kernel) (by decide +kernel), fw_m 643 (by decide +kernel) (by decide +kernel), fw_m 59 (by decide +kernel) (by decide +kernel), fw_m 644 (by decide +kernel) (by decide +kernel), ⟨by decide +kernel, by decide +kernel, by decide +kernel⟩, by decide, _, _, rfl⟩
theorem mv_L_75 : fw_MV "FewTypesLaw" 75 Y_M_plan 9 1 := ⟨fw_m 1108 (by decide +kernel) (by decide +kernel), fw_m 1109 (by decide +kernel) (by decide +kernel), fw_m 1110 (by decide +kernel) (by decide +kernel), fw_m 70 (by decide +kernel) (by decide +kernel), fw_m 1111 (by decide +kernel) (by decide +kernel), ⟨by decide +kernel, by decide +kernel, by decide +kernel⟩, by decide, _, _, rfl⟩
theorem mv_L_76 : fw_MV "FewTypesLaw" 76 Y_X_bound 8 0 := ⟨fw_m 645 (by decide +kernel) (by decide +kernel), fw_m 646 (by decide +kernel) (by decide +kernel), fw_m 647 (by decide +kernel) (by decide +kernel), fw_m 59 (by decide +kernel) (by decide +kernel), fw_m 648 (by decide +kernel) (by decide +kernel), ⟨by decide +kernel, by decide +kernel, by decide +kernel⟩, by decide, _, _, rfl⟩
theorem mv_L_79 : fw_MV "FewTypesLaw" 79 Y_M_bound 9 0 := ⟨fw_m 1116 (by decide +kernel) (by decide +kernel), fw_m 1117 (by decide +kernel) (by decide +kernel), fw_m 1118 (by decide +kernel) (by decide +kernel), fw_m 70 (by decide +kernel) (by decide +kernel), fw_m 1119 (by decide +kernel) (by decide +kernel), ⟨by decide +kernel, by decide +kernel, by decide +kernel⟩, by decide, _, _, rfl⟩
theorem mv_L_80 : fw_MV "FewTypesLaw" 80 Y_X_order 8 1 := ⟨fw_m 659 (by decide +kernel) (by decide +kernel), fw_m 660 (by decide +kernel) (by decide +kernel), fw_m 661 (by decide +kernel) (by decide +kernel), fw_m 59 (by decide +kernel) (by decide +kernel), fw_m 662 (by decide +kernel) (by decide +kernel), ⟨by decide +kernel, by decide +kernel, by decide +kernel⟩, by decide, _, _, rfl⟩
theorem mv_L_83 : fw_MV "FewTypesLaw" 83 Y_M_order 9 1 := ⟨fw_m 1120 (by decide +kernel) (by decide +kernel), fw_m 1121 (by decide +kernel) (by decide +kernel), fw_m 1122 (by decide +kernel) (by decide +kernel), fw_m 70 (by decide +kernel) (by decide +kernel), fw_m 1123 (by decide +kernel) (by decide +kernel), ⟨by decide +kernel, by decide +kernel, by decide +kernel⟩, by decide, _, _, rfl⟩
theorem mv_L_84 : fw_MV "FewTypesLaw" 84 Y_X_make 8 1 := ⟨fw_m 701 (by decide +kernel) (by decide +kernel), fw_m 702 (by decide +kernel) (by decide +kernel), fw_m 703 (by decide +kernel) (by decide +kernel), fw_m 59 (by decide +kernel) (by decide +kernel), fw_m 704 (by decide +kernel) (by decide +kernel), ⟨by decide +kernel, by decide +kernel, by decide +kernel⟩, by decide, _, _, rfl⟩
theorem mv_L_87 : fw_MV "FewTypesLaw" 87 Y_M_make 9 1 := ⟨fw_m 1133 (by decide +kernel) (by decide +kernel), fw_m 1134 (by decide +kernel) (by decide +kernel), fw_m 1135 (by decide +kernel) (by decide +kernel), fw_m 70 (by decide +kernel) (by decide +kernel), fw_m 1136 (by decide +kernel) (by decide +kernel), ⟨by decide +kernel, by decide +kernel, by decide +kernel⟩, by decide, _, _, rfl⟩
theorem mv_L_88 : fw_MV "FewTypesLaw" 88 Y_X_text 8 1 := ⟨fw_m 713 (by decide +kernel) (by decide +kernel), fw_m 714 (by decide +kernel) (by decide +kernel), fw_m 715 (by decide +kernel) (by decide +kernel), fw_m 59 (by decide +kernel) (by decide +kernel), fw_m 716 (by decide +kernel) (by decide +kernel), ⟨by decide +kernel, by decide +kernel, by decide +kernel⟩, by decide, _, _, rfl⟩
theorem mv_L_91 : fw_MV "FewTypesLaw" 91 Y_M_text 9 1 := ⟨fw_m 1138 (by decide +kernel) (by decide +kernel), fw_m 1139 (by decide +kernel) (by decide +kernel), fw_m 1140 (by decide +kernel) (by decide +kernel), fw_m 70 (by decide +kernel) (by decide +kernel), fw_m 1141 (by decide +kernel) (by decide +kernel), ⟨by decide +kernel, by decide +kernel, by decide +kernel⟩, by decide, _, _, rfl⟩
theorem mv_L_92 : fw_MV "FewTypesLaw" 92 Y_X_needs 8 1 := ⟨fw_m 720 (by decide +kernel) (by decide +kernel), fw_m 721 (by decide +kernel) (by decide +kernel), fw_m 722 (by decide +kernel) (by decide +kernel), fw_m 59 (by decide +kernel) (by decide +kernel), fw_m 723 (by decide +kernel) (by decide +kernel), ⟨by decide +kernel, by decide +kernel, by decide +kernel⟩, by decide, _, _, rfl⟩
theorem mv_L_95 : fw_MV "FewTypesLaw" 95 Y_M_needs 9 1 := ⟨fw_m 1142 (by decide +kernel) (by decide +kernel), fw_m 1143 (by decide +kernel) (by decide +kernel), fw_m 1144 (by decide +kernel) (by decide +kernel), fw_m 70 (by decide +kernel) (by decide +kernel), fw_m 1145 (by decide +kernel) (by decide +kernel), ⟨by decide +kernel, by decide +kernel, by decide +kernel⟩, by decide, _, _, rfl⟩
theorem mv_L_96 : fw_MV "FewTypesLaw" 96 Y_X_lost 8 1 := ⟨fw_m 728 (by decide +kernel) (by decide +kernel), fw_m 729 (by decide +kernel) (by decide +kernel), fw_m 730 (by decide +kernel) (by decide +kernel), fw_m 59 (by decide +kernel) (by decide +kernel), fw_m 731 (by decide +kernel) (by decide +kernel), ⟨by decide +kernel, by decide +kernel, by decide +kernel⟩, by decide, _, _, rfl⟩
theorem mv_L_99 : fw_MV "FewTypesLaw" 99 Y_M_lost 9 1 := ⟨fw_m 1150 (by decide +kernel) (by decide +kernel), fw_m 1151 (by decide +kernel) (by decide +kernel), fw_m 1152 (by decide +kernel) (by decide +kernel), fw_m 70 (by decide +kernel) (by decide +kernel), fw_m 1153 (by decide +kernel) (by decide +kernel), ⟨by decide +kernel, by decide +kernel, by decide +kernel⟩, by decide, _, _, rfl⟩
theorem mv_L_100 : fw_MV "FewTypesLaw" 100 Y_X_said 8 1 := ⟨fw_m 732 (by decide +kernel) (by decide +kernel), fw_m 733 (by decide +kernel) (by decide +kernel), fw_m 734 (by decide +kernel) (by decide +kernel), fw_m 59 (by decide +kernel) (by decide +kernel), fw_m 735 (by decide +kernel) (by decide +kernel), ⟨by decide +kernel, by decide +kernel, by decide +kernel⟩, by decide, _, _, rfl⟩
theorem mv_L_103 : fw_MV "FewTypesLaw" 103 Y_M_said 9 1 := ⟨fw_m 1154 (by decide +kernel) (by decide +kernel), fw_m 1155 (by decide +kernel) (by decide +kernel), fw_m 1156 (by decide +kernel) (by decide +kernel), fw_m 70 (by decide +kernel) (by decide +kernel), fw_m 1157 (by decide +kernel) (by decide +kernel), ⟨by decide +kernel, by decide +kernel, by decide +kernel⟩, by decide, _, _, rfl⟩
theorem mv_L_104 : fw_MV "FewTypesLaw" 104 Y_X_job 8 2 := ⟨fw_m 736 (by decide +kernel) (by decide +kernel), fw_m 737 (by decide +kernel) (by decide +kernel), fw_m 738 (by decide +kernel) (by decide +kernel), fw_m 59 (by decide +kernel) (by decide +kernel), fw_m 739 (by decide +kernel) (by decide +kernel), ⟨by decide +kernel, by decide +kernel, by decide +kernel⟩, by decide, _, _, rfl⟩
theorem mv_L_107 : fw_MV "FewTypesLaw" 107 Y_M_job 9 2 := ⟨fw_m 1158 (by decide +kernel) (by decide +kernel), fw_m 1159 (by decide +kernel) (by decide +kernel), fw_m 1160 (by decide +kernel) (by decide +kernel), fw_m 70 (by decide +kernel) (by decide +kernel), fw_m 1161 (by decide +kernel) (by decide +kernel), ⟨by decide +kernel, by decide +kernel, by decide +kernel⟩, by decide, _, _, rfl⟩
theorem mv_L_108 : fw_MV "FewTypesLaw" 108 Y_X_done 8 0 := ⟨fw_m 744 (by decide +kernel) (by decide +kernel), fw_m 745 (by decide +kernel) (by decide +kernel), fw_m 746 (by decide +kernel) (by decide +kernel), fw_m 59 (by decide +kernel) (by decide +kernel), fw_m 747 (by decide +kernel) (by decide +kernel), ⟨by decide +kernel, by decide +kernel, by decide +kernel⟩, by decide, _, _, rfl⟩
theorem mv_L_111 : fw_MV "FewTypesLaw" 111 Y_M_done 9 0 := ⟨fw_m 1164 (by decide +kernel) (by decide +kernel), fw_m 1165 (by decide +kernel) (by decide +kernel), fw_m 1166 (by decide +kernel) (by decide +kernel), fw_m 70 (by decide +kernel) (by decide +kernel), fw_m 1167 (by decide +kernel) (by decide +kernel), ⟨by decide +kernel, by decide +kernel, by decide +kernel⟩, by decide, _, _, rfl⟩
theorem mv_L_112 : fw_MV "FewTypesLaw" 112 Y_X_clear 8 0 := ⟨fw_m 762 (by decide +kernel) (by decide +kernel), fw_m 763 (by decide +kernel) (by decide +kernel), fw_m 764 (by decide +kernel) (by decide +kernel), fw_m 59 (by decide +kernel) (by decide +kernel), fw_m 765 (by decide +kernel) (by decide +kernel), ⟨by decide +kernel, by decide +kernel, by decide +kernel⟩, by decide, _, _, rfl⟩
theorem mv_L_115 : fw_MV "FewTypesLaw" 115 Y_M_clear 9 0 := ⟨fw_m 1175 (by decide +kernel) (by decide +kernel), fw_m 1176 (by decide +kernel) (by decide +kernel), fw_m 1177 (by decide +kernel) (by decide +kernel), fw_m 70 (by decide +kernel) (by decide +kernel), fw_m 1178 (by decide +kernel) (by decide +kernel), ⟨by decide +kernel, by decide +kernel, by decide +kernel⟩, by decide, _, _, rfl⟩
theorem mv_L_116 : fw_MV "FewTypesLaw" 116 Y_X_image 8 0 := ⟨fw_m 766 (by decide +kernel) (by decide +kernel), fw_m 767 (by decide +kernel) (by decide +kernel), fw_m 768 (by decide +kernel) (by decide +kernel), fw_m 59 (by decide +kernel) (by decide +kernel), fw_m 769 (by decide +kernel) (by decide +kernel), ⟨by decide +kernel, by decide +kernel, by decide +kernel⟩, by decide, _, _, rfl⟩
theorem mv_L_119 : fw_MV "FewTypesLaw" 119 Y_M_image 9 0 := ⟨fw_m 1179 (by decide +kernel) (by decide +kernel), fw_m 1180 (by decide +kernel) (by decide +kernel), fw_m 1181 (by decide +kernel) (by decide +kernel), fw_m 70 (by decide +kernel) (by decide +kernel), fw_m 1182 (by decide +kernel) (by decide +kernel), ⟨by decide +kernel, by decide +kernel, by decide +kernel⟩, by decide, _, _, rfl⟩
theorem mv_L_120 : fw_MV "FewTypesLaw" 120 Y_X_restore 8 0 := ⟨fw_m 781 (by decide +kernel) (by decide +kernel), fw_m 782 (by decide +kernel) (by decide +kernel), fw_m 783 (by decide +kernel) (by decide +kernel), fw_m 59 (by decide +kernel) (by decide +kernel), fw_m 784 (by decide +kernel) (by decide +kernel), ⟨by decide +kernel, by decide +kernel, by decide +kernel⟩, by decide, _, _, rfl⟩
theorem mv_L_123 : fw_MV "FewTypesLaw" 123 Y_M_restore 9 0 := ⟨fw_m 1187 (by decide +kernel) (by decide +kernel), fw_m 1188 (by decide +kernel) (by decide +kernel), fw_m 1189 (by decide +kernel) (by decide +kernel), fw_m 70 (by decide +kernel) (by decide +kernel), fw_m 1190 (by decide +kernel) (by decide +kernel), ⟨by decide +kernel, by decide +kernel, by decide +kernel⟩, by decide, _, _, rfl⟩
theorem mv_L_124 : fw_MV "FewTypesLaw" 124 Y_X_leaf 8 3 := ⟨fw_m 785 (by decide +kernel) (by decide +kernel), fw_m 786 (by decide +kernel) (by decide +kernel), fw_m 787 (by decide +kernel) (by decide +kernel), fw_m 59 (by decide +kernel) (by decide +kernel), fw_m 788 (by decide +kernel) (by decide +kernel), ⟨by decide +kernel, by decide +kernel, by decide +kernel⟩, by decide, _, _, rfl⟩
theorem mv_L_127 : fw_MV "FewTypesLaw" 127 Y_M_leaf 9 3 := ⟨fw_m 1195 (by decide +kernel) (by decide +kernel), fw_m 1196 (by decide +kernel) (by decide +kernel), fw_m 1197 (by decide +kernel) (by decide +kernel), fw_m 70 (by decide +kernel) (by decide +kernel), fw_m 1198 (by decide +kernel) (by decide +kernel), ⟨by decide +kernel, by decide +kernel, by decide +kernel⟩, by decide, _, _, rfl⟩
theorem mv_L_128 : fw_MV "FewTypesLaw" 128 Y_X_alike 8 4 := ⟨fw_m 811 (by decide +kernel) (by decide +kernel), fw_m 812 (by decide +kernel) (by decide +kernel), fw_m 813 (by decide +kernel) (by decide +kernel), fw_m 59 (by decide +kernel) (by decide +kernel), fw_m 814 (by decide +kernel) (by decide +kernel), ⟨by decide +kernel, by decide +kernel, by decide +kernel⟩, by decide, _, _, rfl⟩
theorem mv_L_132 : fw_MV "FewTypesLaw" 132 Y_M_alike 9 4 := ⟨fw_m 1209 (by decide +kernel) (by decide +kernel), fw_m 1210 (by decide +kernel) (by decide +kernel), fw_m 1211 (by decide +kernel) (by decide +kernel), fw_m 70 (by decide +kernel) (by decide +kernel), fw_m 1212 (by decide +kernel) (by decide +kernel), ⟨by decide +kernel, by decide +kernel, by decide +kernel⟩, by decide, _, _, rfl⟩
theorem mv_L_133 : fw_MV "FewTypesLaw" 133 Y_X_sheet 8 3 := ⟨fw_m 821 (by decide +kernel) (by decide +kernel), fw_m 822 (by decide +kernel) (by decide +kernel), fw_m 823 (by decide +kernel) (by decide +kernel), fw_m 59 (by decide +kernel) (by decide +kernel), fw_m 824 (by decide +kernel) (by decide +kernel), ⟨by decide +kernel, by decide +kernel, by decide +kernel⟩, by decide, _, _, rfl⟩
theorem mv_L_136 : fw_MV "FewTypesLaw" 136 Y_M_sheet 9 3 := ⟨fw_m 1213 (by decide +kernel) (by decide +kernel), fw_m 1214 (by decide +kernel) (by decide +kernel), fw_m 1215 (by decide +kernel) (by decide +kernel), fw_m 70 (by decide +kernel) (by decide +kernel), fw_m 1216 (by decide +kernel) (by decide +kernel), ⟨by decide +kernel, by decide +kernel, by decide +kernel⟩, by decide, _, _, rfl⟩
theorem mv_L_137 : fw_MV "FewTypesLaw" 137 Y_X_drop 8 1 := ⟨fw_m 830 (by decide +kernel) (by decide +kernel), fw_m 831 (by decide +kernel) (by decide +kernel), fw_m 832 (by decide +kernel) (by decide +kernel), fw_m 59 (by decide +kernel) (by decide +kernel), fw_m 833 (by decide +kernel) (by decide +kernel), ⟨by decide +kernel, by decide +kernel, by decide +kernel⟩, by decide, _, _, rfl⟩
theorem mv_L_140 : fw_MV "FewTypesLaw" 140 Y_M_drop 9 1 := ⟨fw_m 1217 (by decide +kernel) (by decide +kernel), fw_m 1218 (by decide +kernel) (by decide +kernel), fw_m 1219 (by decide +kernel) (by decide +kernel), fw_m 70 (by decide +kernel) (by decide +kernel), fw_m 1220 (by decide +kernel) (by decide +kernel), ⟨by decide +kernel, by decide +kernel, by decide +kernel⟩, by decide, _, _, rfl⟩
theorem mv_L_141 : fw_MV "FewTypesLaw" 141 Y_X_item 8 4 := ⟨fw_m 834 (by decide +kernel) (by decide +kernel), fw_m 835 (by decide +kernel) (by decide +kernel), fw_m 836 (by decide +kernel) (by decide +kernel), fw_m 59 (by decide +kernel) (by decide +kernel), fw_m 837 (by decide +kernel) (by decide +kernel), ⟨by decide +kernel, by decide +kernel, by decide +kernel⟩, by decide, _, _, rfl⟩
theorem mv_L_144 : fw_MV "FewTypesLaw" 144 Y_M_item 9 4 := ⟨fw_m 1221 (by decide +kernel) (by decide +kernel), fw_m 1222 (by decide +kernel) (by decide +kernel), fw_m 1223 (by decide +kernel) (by decide +kernel), fw_m 70 (by decide +kernel) (by decide +kernel), fw_m 1224 (by decide +kernel) (by decide +kernel), ⟨by decide +kernel, by decide +kernel, by decide +kernel⟩, by decide, _, _, rfl⟩
theorem mv_L_145 : fw_MV "FewTypesLaw" 145 Y_X_copy 8 5 := ⟨fw_m 842 (by decide +kernel) (by decide +kernel), fw_m 843 (by decide +kernel) (by decide +kernel), fw_m 844 (by decide +kernel) (by decide +kernel), fw_m 59 (by decide +kernel) (by decide +kernel), fw_m 845 (by decide +kernel) (by decide +kernel), ⟨by decide +kernel, by decide +kernel, by decide +kernel⟩, by decide, _, _, rfl⟩
theorem mv_L_149 : fw_MV "FewTypesLaw" 149 Y_M_copy 9 5 := ⟨fw_m 1225 (by decide +kernel) (by decide +kernel), fw_m 1226 (by decide +kernel) (by decide +kernel), fw_m 1227 (by decide +kernel) (by decide +kernel), fw_m 70 (by decide +kernel) (by decide +kernel), fw_m 1228 (by decide +kernel) (by decide +kernel), ⟨by decide +kernel, by decide +kernel, by decide +kernel⟩, by decide, _, _, rfl⟩
set_option maxHeartbeats 4000000 in
theorem wl_case0 {I : Nat → fw_M → fw_M → Prop} (hO : fw_O_cast I) {L n : Nat} {xs : Nat → Int32} {μx μm : fw_M} (hL : L ≤ 3072) (hb : 6 * n + 6 ≤ L) (hn : n < 512) (hI : I n μx μm) (hk : ∀ νx νm, I (n + 1) νx νm → fw_L L xs 1092 [(0, .ref 2), (1, .ref 0), (2, .ref 1), (3, .int (nI (6 * n)))] [] νx νm) : fw_L L xs 176 [(0, .ref 2), (1, .ref 0), (2, .ref 1), (3, .int (nI (6 * n)))] [] μx μm := by
  obtain ⟨r, νx, νm, hx, hm, hI2⟩ := hO n μx μm hn hI (xs ((nI (6 * n)) + 1).toNatClampNeg) (xs ((nI (6 * n)) + 2).toNatClampNeg) (xs ((nI (6 * n)) + 3).toNatClampNeg)
  refine wl_aload_n (pc := 176) d_law_176 1 rfl rfl ?_
  refine wl_aload_n (pc := 177) d_law_177 0 rfl rfl ?_
  refine wl_iload_n (pc := 178) d_law_178 3 rfl rfl ?_
  refine wl_iconst (pc := 179) d_law_179 (v := 1) (by decide) ?_
  refine wl_iadd (pc := 180) d_law_180 ?_
  refine wl_sld (pc := 181) d_law_181 (wl_in hL hb (j := 1) (by decide) (wl_n1 n)) ?_
  refine wl_aload_n (pc := 182) d_law_182 0 rfl rfl ?_
  refine wl_iload_n (pc := 183) d_law_183 3 rfl rfl ?_
  refine wl_iconst (pc := 184) d_law_184 (v := 2) (by decide) ?_
  refine wl_iadd (pc := 185) d_law_185 ?_
  refine wl_sld (pc := 186) d_law_186 (wl_in hL hb (j := 2) (by decide) (wl_n2 n)) ?_
  refine wl_aload_n (pc := 187) d_law_187 0 rfl rfl ?_
  refine wl_iload_n (pc := 188) d_law_188 3 rfl rfl ?_
  refine wl_iconst (pc := 189) d_law_189 (v := 3) (by decide) ?_
  refine wl_iadd (pc := 190) d_law_190 ?_
  refine wl_sld (pc := 191) d_law_191 (wl_in hL hb (j := 3) (by decide) (wl_n3 n)) ?_
  refine wl_callX (pc := 192) d_law_192 mv_L_13 (as := [.int (xs ((nI (6 * n)) + 1).toNatClampNeg), .int (xs ((nI (6 * n)) + 2).toNatClampNeg), .int (xs ((nI (6 * n)) + 3).toNatClampNeg)]) (c_X_cast hx) (by decide) rfl (fun _ _ => rfl) rfl (Nat.le_of_ble_eq_true rfl) ?_
  refine wl_aload_n (pc := 195) d_law_195 2 rfl rfl ?_
  refine wl_aload_n (pc := 196) d_law_196 0 rfl rfl ?_
  refine wl_iload_n (pc := 197) d_law_197 3 rfl rfl ?_
  refine wl_iconst (pc := 198) d_law_198 (v := 1) (by decide) ?_
  refine wl_iadd (pc := 199) d_law_199 ?_
  refine wl_sld (pc := 200) d_law_200 (wl_in hL hb (j := 1) (by decide) (wl_n1 n)) ?_
  refine wl_aload_n (pc := 201) d_law_201 0 rfl rfl ?_
  refine wl_iload_n (pc := 202) d_law_202 3 rfl rfl ?_
  refine wl_iconst (pc := 203) d_law_203 (v := 2) (by decide) ?_
  refine wl_iadd (pc := 204) d_law_204 ?_
  refine wl_sld (pc := 205) d_law_205 (wl_in hL hb (j := 2) (by decide) (wl_n2 n)) ?_
  refine wl_aload_n (pc := 206) d_law_206 0 rfl rfl ?_
  refine wl_iload_n (pc := 207) d_law_207 3 rfl rfl ?_
  refine wl_iconst (pc := 208) d_law_208 (v := 3) (by decide) ?_
  refine wl_iadd (pc := 209) d_law_209 ?_
  refine wl_sld (pc := 210) d_law_210 (wl_in hL hb (j := 3) (by decide) (wl_n3 n)) ?_
  refine wl_callM (pc := 211) d_law_211 mv_L_17 (as := [.int (xs ((nI (6 * n)) + 1).toNatClampNeg), .int (xs ((nI (6 * n)) + 2).toNatClampNeg), .int (xs ((nI (6 * n)) + 3).toNatClampNeg)]) (c_M_cast hm) (by decide) rfl (fun _ _ => rfl) rfl (Nat.le_of_ble_eq_true rfl) ?_
  refine wl_eq (pc := 214) (tgt := 1092) d_law_214 rfl ?_
  exact hk _ _ hI2
set_option maxHeartbeats 4000000 in
theorem wl_case1 {I : Nat → fw_M → fw_M → Prop} (hO : fw_O_told I) {L n : Nat} {xs : Nat → Int32} {μx μm : fw_M} (hL : L ≤ 3072) (hb : 6 * n + 6 ≤ L) (hn : n < 512) (hI : I n μx μm) (hk : ∀ νx νm, I (n + 1) νx νm → fw_L L xs 1092 [(0, .ref 2), (1, .ref 0), (2, .ref 1), (3, .int (nI (6 * n)))] [] νx νm) : fw_L L xs 219 [(0, .ref 2), (1, .ref 0), (2, .ref 1), (3, .int (nI (6 * n)))] [] μx μm := by
  obtain ⟨r, hx, hm, hI2⟩ := hO n μx μm hn hI (xs ((nI (6 * n)) + 1).toNatClampNeg) (xs ((nI (6 * n)) + 2).toNatClampNeg)
  refine wl_aload_n (pc := 219) d_law_219 1 rfl rfl ?_
  refine wl_aload_n (pc := 220) d_law_220 0 rfl rfl ?_
  refine wl_iload_n (pc := 221) d_law_221 3 rfl rfl ?_
  refine wl_iconst (pc := 222) d_law_222 (v := 1) (by decide) ?_
  refine wl_iadd (pc := 223) d_law_223 ?_
  refine wl_sld (pc := 224) d_law_224 (wl_in hL hb (j := 1) (by decide) (wl_n1 n)) ?_
  refine wl_aload_n (pc := 225) d_law_225 0 rfl rfl ?_
  refine wl_iload_n (pc := 226) d_law_226 3 rfl rfl ?_
  refine wl_iconst (pc := 227) d_law_227 (v := 2) (by decide) ?_
  refine wl_iadd (pc := 228) d_law_228 ?_
  refine wl_sld (pc := 229) d_law_229 (wl_in hL hb (j := 2) (by decide) (wl_n2 n)) ?_
  refine wl_callX (pc := 230) d_law_230 mv_L_18 (as := [.int (xs ((nI (6 * n)) + 1).toNatClampNeg), .int (xs ((nI (6 * n)) + 2).toNatClampNeg)]) (c_X_told hx) (by decide) rfl (fun _ _ => rfl) rfl (Nat.le_of_ble_eq_true rfl) ?_
  refine wl_aload_n (pc := 233) d_law_233 2 rfl rfl ?_
  refine wl_aload_n (pc := 234) d_law_234 0 rfl rfl ?_
  refine wl_iload_n (pc := 235) d_law_235 3 rfl rfl ?_
  refine wl_iconst (pc := 236) d_law_236 (v := 1) (by decide) ?_
  refine wl_iadd (pc := 237) d_law_237 ?_
  refine wl_sld (pc := 238) d_law_238 (wl_in hL hb (j := 1) (by decide) (wl_n1 n)) ?_
  refine wl_aload_n (pc := 239) d_law_239 0 rfl rfl ?_
  refine wl_iload_n (pc := 240) d_law_240 3 rfl rfl ?_
  refine wl_iconst (pc := 241) d_law_241 (v := 2) (by decide) ?_
  refine wl_iadd (pc := 242) d_law_242 ?_
  refine wl_sld (pc := 243) d_law_243 (wl_in hL hb (j := 2) (by decide) (wl_n2 n)) ?_
  refine wl_callM (pc := 244) d_law_244 mv_L_22 (as := [.int (xs ((nI (6 * n)) + 1).toNatClampNeg), .int (xs ((nI (6 * n)) + 2).toNatClampNeg)]) (c_M_told hm) (by decide) rfl (fun _ _ => rfl) rfl (Nat.le_of_ble_eq_true rfl) ?_
  refine wl_eq (pc := 247) (tgt := 1092) d_law_247 rfl ?_
  exact hk _ _ hI2
set_option maxHeartbeats 4000000 in
theorem wl_case2 {I : Nat → fw_M → fw_M → Prop} (hO : fw_O_lose I) {L n : Nat} {xs : Nat → Int32} {μx μm : fw_M} (hL : L ≤ 3072) (hb : 6 * n + 6 ≤ L) (hn : n < 512) (hI : I n μx μm) (hk : ∀ νx νm, I (n + 1) νx νm → fw_L L xs 1092 [(0, .ref 2), (1, .ref 0), (2, .ref 1), (3, .int (nI (6 * n)))] [] νx νm) : fw_L L xs 252 [(0, .ref 2), (1, .ref 0), (2, .ref 1), (3, .int (nI (6 * n)))] [] μx μm := by
  obtain ⟨r, νx, νm, hx, hm, hI2⟩ := hO n μx μm hn hI (xs ((nI (6 * n)) + 1).toNatClampNeg)
  refine wl_aload_n (pc := 252) d_law_252 1 rfl rfl ?_
  refine wl_aload_n (pc := 253) d_law_253 0 rfl rfl ?_
  refine wl_iload_n (pc := 254) d_law_254 3 rfl rfl ?_
  refine wl_iconst (pc := 255) d_law_255 (v := 1) (by decide) ?_
  refine wl_iadd (pc := 256) d_law_256 ?_
  refine wl_sld (pc := 257) d_law_257 (wl_in hL hb (j := 1) (by decide) (wl_n1 n)) ?_
  refine wl_callX (pc := 258) d_law_258 mv_L_23 (as := [.int (xs ((nI (6 * n)) + 1).toNatClampNeg)]) (c_X_lose hx) (by decide) rfl (fun _ _ => rfl) rfl (Nat.le_of_ble_eq_true rfl) ?_
  refine wl_aload_n (pc := 261) d_law_261 2 rfl rfl ?_
  refine wl_aload_n (pc := 262) d_law_262 0 rfl rfl ?_
  refine wl_iload_n (pc := 263) d_law_263 3 rfl rfl ?_
  refine wl_iconst (pc := 264) d_law_264 (v := 1) (by decide) ?_
  refine wl_iadd (pc := 265) d_law_265 ?_
  refine wl_sld (pc := 266) d_law_266 (wl_in hL hb (j := 1) (by decide) (wl_n1 n)) ?_
  refine wl_callM (pc := 267) d_law_267 mv_L_27 (as := [.int (xs ((nI (6 * n)) + 1).toNatClampNeg)]) (c_M_lose hm) (by decide) rfl (fun _ _ => rfl) rfl (Nat.le_of_ble_eq_true rfl) ?_
  refine wl_eq (pc := 270) (tgt := 1092) d_law_270 rfl ?_
  exact hk _ _ hI2
set_option maxHeartbeats 4000000 in
theorem wl_case3 {I : Nat → fw_M → fw_M → Prop} (hO : fw_O_width I) {L n : Nat} {xs : Nat → Int32} {μx μm : fw_M} (hL : L ≤ 3072) (hb : 6 * n + 6 ≤ L) (hn : n < 512) (hI : I n μx μm) (hk : ∀ νx νm, I (n + 1) νx νm → fw_L L xs 1092 [(0, .ref 2), (1, .ref 0), (2, .ref 1), (3, .int (nI (6 * n)))] [] νx νm) : fw_L L xs 275 [(0, .ref 2), (1, .ref 0), (2, .ref 1), (3, .int (nI (6 * n)))] [] μx μm := by
  obtain ⟨r, νx, νm, hx, hm, hI2⟩ := hO n μx μm hn hI (xs ((nI (6 * n)) + 1).toNatClampNeg) (xs ((nI (6 * n)) + 2).toNatClampNeg)
  refine wl_aload_n (pc := 275) d_law_275 1 rfl rfl ?_
  refine wl_aload_n (pc := 276) d_law_276 0 rfl rfl ?_
  refine wl_iload_n (pc := 277) d_law_277 3 rfl rfl ?_
  refine wl_iconst (pc := 278) d_law_278 (v := 1) (by decide) ?_
  refine wl_iadd (pc := 279) d_law_279 ?_
  refine wl_sld (pc := 280) d_law_280 (wl_in hL hb (j := 1) (by decide) (wl_n1 n)) ?_
  refine wl_aload_n (pc := 281) d_law_281 0 rfl rfl ?_
  refine wl_iload_n (pc := 282) d_law_282 3 rfl rfl ?_
  refine wl_iconst (pc := 283) d_law_283 (v := 2) (by decide) ?_
  refine wl_iadd (pc := 284) d_law_284 ?_
  refine wl_sld (pc := 285) d_law_285 (wl_in hL hb (j := 2) (by decide) (wl_n2 n)) ?_
  refine wl_callX (pc := 286) d_law_286 mv_L_28 (as := [.int (xs ((nI (6 * n)) + 1).toNatClampNeg), .int (xs ((nI (6 * n)) + 2).toNatClampNeg)]) (c_X_width hx) (by decide) rfl (fun _ _ => rfl) rfl (Nat.le_of_ble_eq_true rfl) ?_
  refine wl_aload_n (pc := 289) d_law_289 2 rfl rfl ?_
  refine wl_aload_n (pc := 290) d_law_290 0 rfl rfl ?_
  refine wl_iload_n (pc := 291) d_law_291 3 rfl rfl ?_
  refine wl_iconst (pc := 292) d_law_292 (v := 1) (by decide) ?_
  refine wl_iadd (pc := 293) d_law_293 ?_
  refine wl_sld (pc := 294) d_law_294 (wl_in hL hb (j := 1) (by decide) (wl_n1 n)) ?_
  refine wl_aload_n (pc := 295) d_law_295 0 rfl rfl ?_
  refine wl_iload_n (pc := 296) d_law_296 3 rfl rfl ?_
  refine wl_iconst (pc := 297) d_law_297 (v := 2) (by decide) ?_
  refine wl_iadd (pc := 298) d_law_298 ?_
  refine wl_sld (pc := 299) d_law_299 (wl_in hL hb (j := 2) (by decide) (wl_n2 n)) ?_
  refine wl_callM (pc := 300) d_law_300 mv_L_31 (as := [.int (xs ((nI (6 * n)) + 1).toNatClampNeg), .int (xs ((nI (6 * n)) + 2).toNatClampNeg)]) (c_M_width hm) (by decide) rfl (fun _ _ => rfl) rfl (Nat.le_of_ble_eq_true rfl) ?_
  refine wl_eq (pc := 303) (tgt := 1092) d_law_303 rfl ?_
  exact hk _ _ hI2
set_option maxHeartbeats 4000000 in
theorem wl_case4 {I : Nat → fw_M → fw_M → Prop} (hO : fw_O_rule I) {L n : Nat} {xs : Nat → Int32} {μx μm : fw_M} (hL : L ≤ 3072) (hb : 6 * n + 6 ≤ L) (hn : n < 512) (hI : I n μx μm) (hk : ∀ νx νm, I (n + 1) νx νm → fw_L L xs 1092 [(0, .ref 2), (1, .ref 0), (2, .ref 1), (3, .int (nI (6 * n)))] [] νx νm) : fw_L L xs 308 [(0, .ref 2), (1, .ref 0), (2, .ref 1), (3, .int (nI (6 * n)))] [] μx μm := by
  obtain ⟨r, νx, νm, hx, hm, hI2⟩ := hO n μx μm hn hI (xs ((nI (6 * n)) + 1).toNatClampNeg) (xs ((nI (6 * n)) + 2).toNatClampNeg)
  refine wl_aload_n (pc := 308) d_law_308 1 rfl rfl ?_
  refine wl_aload_n (pc := 309) d_law_309 0 rfl rfl ?_
  refine wl_iload_n (pc := 310) d_law_310 3 rfl rfl ?_
  refine wl_iconst (pc := 311) d_law_311 (v := 1) (by decide) ?_
  refine wl_iadd (pc := 312) d_law_312 ?_
  refine wl_sld (pc := 313) d_law_313 (wl_in hL hb (j := 1) (by decide) (wl_n1 n)) ?_
  refine wl_aload_n (pc := 314) d_law_314 0 rfl rfl ?_
  refine wl_iload_n (pc := 315) d_law_315 3 rfl rfl ?_
  refine wl_iconst (pc := 316) d_law_316 (v := 2) (by decide) ?_
  refine wl_iadd (pc := 317) d_law_317 ?_
  refine wl_sld (pc := 318) d_law_318 (wl_in hL hb (j := 2) (by decide) (wl_n2 n)) ?_
  refine wl_callX (pc := 319) d_law_319 mv_L_32 (as := [.int (xs ((nI (6 * n)) + 1).toNatClampNeg), .int (xs ((nI (6 * n)) + 2).toNatClampNeg)]) (c_X_rule hx) (by decide) rfl (fun _ _ => rfl) rfl (Nat.le_of_ble_eq_true rfl) ?_
  refine wl_aload_n (pc := 322) d_law_322 2 rfl rfl ?_
  refine wl_aload_n (pc := 323) d_law_323 0 rfl rfl ?_
  refine wl_iload_n (pc := 324) d_law_324 3 rfl rfl ?_
  refine wl_iconst (pc := 325) d_law_325 (v := 1) (by decide) ?_
  refine wl_iadd (pc := 326) d_law_326 ?_
  refine wl_sld (pc := 327) d_law_327 (wl_in hL hb (j := 1) (by decide) (wl_n1 n)) ?_
  refine wl_aload_n (pc := 328) d_law_328 0 rfl rfl ?_
  refine wl_iload_n (pc := 329) d_law_329 3 rfl rfl ?_
  refine wl_iconst (pc := 330) d_law_330 (v := 2) (by decide) ?_
  refine wl_iadd (pc := 331) d_law_331 ?_
  refine wl_sld (pc := 332) d_law_332 (wl_in hL hb (j := 2) (by decide) (wl_n2 n)) ?_
  refine wl_callM (pc := 333) d_law_333 mv_L_35 (as := [.int (xs ((nI (6 * n)) + 1).toNatClampNeg), .int (xs ((nI (6 * n)) + 2).toNatClampNeg)]) (c_M_rule hm) (by decide) rfl (fun _ _ => rfl) rfl (Nat.le_of_ble_eq_true rfl) ?_
  refine wl_eq (pc := 336) (tgt := 1092) d_law_336 rfl ?_
  exact hk _ _ hI2
set_option maxHeartbeats 4000000 in
theorem wl_case5 {I : Nat → fw_M → fw_M → Prop} (hO : fw_O_type I) {L n : Nat} {xs : Nat → Int32} {μx μm : fw_M} (hL : L ≤ 3072) (hb : 6 * n + 6 ≤ L) (hn : n < 512) (hI : I n μx μm) (hk : ∀ νx νm, I (n + 1) νx νm → fw_L L xs 1092 [(0, .ref 2), (1, .ref 0), (2, .ref 1), (3, .int (nI (6 * n)))] [] νx νm) : fw_L L xs 341 [(0, .ref 2), (1, .ref 0), (2, .ref 1), (3, .int (nI (6 * n)))] [] μx μm := by
  obtain ⟨r, νx, νm, hx, hm, hI2⟩ := hO n μx μm hn hI (((Int32.toInt64 (xs ((nI (6 * n)) + 1).toNatClampNeg)) <<< (Int32.toInt64 32 &&& 63)) ||| ((Int32.toInt64 (xs ((nI (6 * n)) + 2).toNatClampNeg)) &&& 4294967295)) (xs ((nI (6 * n)) + 3).toNatClampNeg)
  refine wl_aload_n (pc := 341) d_law_341 1 rfl rfl ?_
  refine wl_aload_n (pc := 342) d_law_342 0 rfl rfl ?_
  refine wl_iload_n (pc := 343) d_law_343 3 rfl rfl ?_
  refine wl_iconst (pc := 344) d_law_344 (v := 1) (by decide) ?_
  refine wl_iadd (pc := 345) d_law_345 ?_
  refine wl_sld (pc := 346) d_law_346 (wl_in hL hb (j := 1) (by decide) (wl_n1 n)) ?_
  refine wl_i2l (pc := 347) d_law_347 ?_
  refine wl_bipush (pc := 348) d_law_348 (v := 32) (by decide) ?_
  refine wl_lshl (pc := 350) d_law_350 ?_
  refine wl_aload_n (pc := 351) d_law_351 0 rfl rfl ?_
  refine wl_iload_n (pc := 352) d_law_352 3 rfl rfl ?_
  refine wl_iconst (pc := 353) d_law_353 (v := 2) (by decide) ?_
  refine wl_iadd (pc := 354) d_law_354 ?_
  refine wl_sld (pc := 355) d_law_355 (wl_in hL hb (j := 2) (by decide) (wl_n2 n)) ?_
  refine wl_i2l (pc := 356) d_law_356 ?_
  refine wl_ldc2 (pc := 357) d_law_357 cl_L_36 ?_
  refine wl_land (pc := 360) d_law_360 ?_
  refine wl_lor (pc := 361) d_law_361 ?_
  refine wl_aload_n (pc := 362) d_law_362 0 rfl rfl ?_
  refine wl_iload_n (pc := 363) d_law_363 3 rfl rfl ?_
  refine wl_iconst (pc := 364) d_law_364 (v := 3) (by decide) ?_
  refine wl_iadd (pc := 365) d_law_365 ?_
  refine wl_sld (pc := 366) d_law_366 (wl_in hL hb (j := 3) (by decide) (wl_n3 n)) ?_
  refine wl_callX (pc := 367) d_law_367 mv_L_38 (as := [.long (((Int32.toInt64 (xs ((nI (6 * n)) + 1).toNatClampNeg)) <<< (Int32.toInt64 32 &&& 63)) ||| ((Int32.toInt64 (xs ((nI (6 * n)) + 2).toNatClampNeg)) &&& 4294967295)), .int (xs ((nI (6 * n)) + 3).toNatClampNeg)]) (c_X_type hx) (by decide) rfl (fun _ _ => rfl) rfl (Nat.le_of_ble_eq_true rfl) ?_
  refine wl_aload_n (pc := 370) d_law_370 2 rfl rfl ?_
  refine wl_aload_n (pc := 371) d_law_371 0 rfl rfl ?_
  refine wl_iload_n (pc := 372) d_law_372 3 rfl rfl ?_
  refine wl_iconst (pc := 373) d_law_373 (v := 1) (by decide) ?_
  refine wl_iadd (pc := 374) d_law_374 ?_
  refine wl_sld (pc := 375) d_law_375 (wl_in hL hb (j := 1) (by decide) (wl_n1 n)) ?_
  refine wl_i2l (pc := 376) d_law_376 ?_
  refine wl_bipush (pc := 377) d_law_377 (v := 32) (by decide) ?_
  refine wl_lshl (pc := 379) d_law_379 ?_
  refine wl_aload_n (pc := 380) d_law_380 0 rfl rfl ?_
  refine wl_iload_n (pc := 381) d_law_381 3 rfl rfl ?_
  refine wl_iconst (pc := 382) d_law_382 (v := 2) (by decide) ?_
  refine wl_iadd (pc := 383) d_law_383 ?_
  refine wl_sld (pc := 384) d_law_384 (wl_in hL hb (j := 2) (by decide) (wl_n2 n)) ?_
  refine wl_i2l (pc := 385) d_law_385 ?_
  refine wl_ldc2 (pc := 386) d_law_386 cl_L_36 ?_
  refine wl_land (pc := 389) d_law_389 ?_
  refine wl_lor (pc := 390) d_law_390 ?_
  refine wl_aload_n (pc := 391) d_law_391 0 rfl rfl ?_
  refine wl_iload_n (pc := 392) d_law_392 3 rfl rfl ?_
  refine wl_iconst (pc := 393) d_law_393 (v := 3) (by decide) ?_
  refine wl_iadd (pc := 394) d_law_394 ?_
  refine wl_sld (pc := 395) d_law_395 (wl_in hL hb (j := 3) (by decide) (wl_n3 n)) ?_
  refine wl_callM (pc := 396) d_law_396 mv_L_42 (as := [.long (((Int32.toInt64 (xs ((nI (6 * n)) + 1).toNatClampNeg)) <<< (Int32.toInt64 32 &&& 63)) ||| ((Int32.toInt64 (xs ((nI (6 * n)) + 2).toNatClampNeg)) &&& 4294967295)), .int (xs ((nI (6 * n)) + 3).toNatClampNeg)]) (c_M_type hm) (by decide) rfl (fun _ _ => rfl) rfl (Nat.le_of_ble_eq_true rfl) ?_
  refine wl_eq (pc := 399) (tgt := 1092) d_law_399 rfl ?_
  exact hk _ _ hI2
set_option maxHeartbeats 4000000 in
theorem wl_case6 {I : Nat → fw_M → fw_M → Prop} (hO : fw_O_line I) {L n : Nat} {xs : Nat → Int32} {μx μm : fw_M} (hL : L ≤ 3072) (hb : 6 * n + 6 ≤ L) (hn : n < 512) (hI : I n μx μm) (hk : ∀ νx νm, I (n + 1) νx νm → fw_L L xs 1092 [(0, .ref 2), (1, .ref 0), (2, .ref 1), (3, .int (nI (6 * n)))] [] νx νm) : fw_L L xs 404 [(0, .ref 2), (1, .ref 0), (2, .ref 1), (3, .int (nI (6 * n)))] [] μx μm := by
  obtain ⟨r, νx, νm, hx, hm, hI2⟩ := hO n μx μm hn hI
  refine wl_aload_n (pc := 404) d_law_404 1 rfl rfl ?_
  refine wl_callX (pc := 405) d_law_405 mv_L_43 (as := []) (c_X_line hx) (by decide) rfl (fun _ _ => rfl) rfl (Nat.le_of_ble_eq_true rfl) ?_
  refine wl_aload_n (pc := 408) d_law_408 2 rfl rfl ?_
  refine wl_callM (pc := 409) d_law_409 mv_L_47 (as := []) (c_M_line hm) (by decide) rfl (fun _ _ => rfl) rfl (Nat.le_of_ble_eq_true rfl) ?_
  refine wl_eq (pc := 412) (tgt := 1092) d_law_412 rfl ?_
  exact hk _ _ hI2
set_option maxHeartbeats 4000000 in
theorem wl_case7 {I : Nat → fw_M → fw_M → Prop} (hO : fw_O_types I) {L n : Nat} {xs : Nat → Int32} {μx μm : fw_M} (hL : L ≤ 3072) (hb : 6 * n + 6 ≤ L) (hn : n < 512) (hI : I n μx μm) (hk : ∀ νx νm, I (n + 1) νx νm → fw_L L xs 1092 [(0, .ref 2), (1, .ref 0), (2, .ref 1), (3, .int (nI (6 * n)))] [] νx νm) : fw_L L xs 417 [(0, .ref 2), (1, .ref 0), (2, .ref 1), (3, .int (nI (6 * n)))] [] μx μm := by
  obtain ⟨r, νx, νm, hx, hm, hI2⟩ := hO n μx μm hn hI
  refine wl_aload_n (pc := 417) d_law_417 1 rfl rfl ?_
  refine wl_callX (pc := 418) d_law_418 mv_L_48 (as := []) (c_X_types hx) (by decide) rfl (fun _ _ => rfl) rfl (Nat.le_of_ble_eq_true rfl) ?_
  refine wl_aload_n (pc := 421) d_law_421 2 rfl rfl ?_
  refine wl_callM (pc := 422) d_law_422 mv_L_51 (as := []) (c_M_types hm) (by decide) rfl (fun _ _ => rfl) rfl (Nat.le_of_ble_eq_true rfl) ?_
  refine wl_eq (pc := 425) (tgt := 1092) d_law_425 rfl ?_
  exact hk _ _ hI2
set_option maxHeartbeats 4000000 in
theorem wl_case8 {I : Nat → fw_M → fw_M → Prop} (hO : fw_O_place I) {L n : Nat} {xs : Nat → Int32} {μx μm : fw_M} (hL : L ≤ 3072) (hb : 6 * n + 6 ≤ L) (hn : n < 512) (hI : I n μx μm) (hk : ∀ νx νm, I (n + 1) νx νm → fw_L L xs 1092 [(0, .ref 2), (1, .ref 0), (2, .ref 1), (3, .int (nI (6 * n)))] [] νx νm) : fw_L L xs 430 [(0, .ref 2), (1, .ref 0), (2, .ref 1), (3, .int (nI (6 * n)))] [] μx μm := by
  obtain ⟨r, hx, hm, hI2⟩ := hO n μx μm hn hI (xs ((nI (6 * n)) + 1).toNatClampNeg) (xs ((nI (6 * n)) + 2).toNatClampNeg)
  refine wl_aload_n (pc := 430) d_law_430 1 rfl rfl ?_
  refine wl_aload_n (pc := 431) d_law_431 0 rfl rfl ?_
  refine wl_iload_n (pc := 432) d_law_432 3 rfl rfl ?_
  refine wl_iconst (pc := 433) d_law_433 (v := 1) (by decide) ?_
  refine wl_iadd (pc := 434) d_law_434 ?_
  refine wl_sld (pc := 435) d_law_435 (wl_in hL hb (j := 1) (by decide) (wl_n1 n)) ?_
  refine wl_aload_n (pc := 436) d_law_436 0 rfl rfl ?_
  refine wl_iload_n (pc := 437) d_law_437 3 rfl rfl ?_
  refine wl_iconst (pc := 438) d_law_438 (v := 2) (by decide) ?_
  refine wl_iadd (pc := 439) d_law_439 ?_
  refine wl_sld (pc := 440) d_law_440 (wl_in hL hb (j := 2) (by decide) (wl_n2 n)) ?_
  refine wl_callX (pc := 441) d_law_441 mv_L_52 (as := [.int (xs ((nI (6 * n)) + 1).toNatClampNeg), .int (xs ((nI (6 * n)) + 2).toNatClampNeg)]) (c_X_place hx) (by decide) rfl (fun _ _ => rfl) rfl (Nat.le_of_ble_eq_true rfl) ?_
  refine wl_aload_n (pc := 444) d_law_444 2 rfl rfl ?_
  refine wl_aload_n (pc := 445) d_law_445 0 rfl rfl ?_
  refine wl_iload_n (pc := 446) d_law_446 3 rfl rfl ?_
  refine wl_iconst (pc := 447) d_law_447 (v := 1) (by decide) ?_
  refine wl_iadd (pc := 448) d_law_448 ?_
  refine wl_sld (pc := 449) d_law_449 (wl_in hL hb (j := 1) (by decide) (wl_n1 n)) ?_
  refine wl_aload_n (pc := 450) d_law_450 0 rfl rfl ?_
  refine wl_iload_n (pc := 451) d_law_451 3 rfl rfl ?_
  refine wl_iconst (pc := 452) d_law_452 (v := 2) (by decide) ?_
  refine wl_iadd (pc := 453) d_law_453 ?_
  refine wl_sld (pc := 454) d_law_454 (wl_in hL hb (j := 2) (by decide) (wl_n2 n)) ?_
  refine wl_callM (pc := 455) d_law_455 mv_L_55 (as := [.int (xs ((nI (6 * n)) + 1).toNatClampNeg), .int (xs ((nI (6 * n)) + 2).toNatClampNeg)]) (c_M_place hm) (by decide) rfl (fun _ _ => rfl) rfl (Nat.le_of_ble_eq_true rfl) ?_
  refine wl_eq (pc := 458) (tgt := 1092) d_law_458 rfl ?_
  exact hk _ _ hI2
set_option maxHeartbeats 4000000 in
theorem wl_case9 {I : Nat → fw_M → fw_M → Prop} (hO : fw_O_count I) {L n : Nat} {xs : Nat → Int32} {μx μm : fw_M} (hL : L ≤ 3072) (hb : 6 * n + 6 ≤ L) (hn : n < 512) (hI : I n μx μm) (hk : ∀ νx νm, I (n + 1) νx νm → fw_L L xs 1092 [(0, .ref 2), (1, .ref 0), (2, .ref 1), (3, .int (nI (6 * n)))] [] νx νm) : fw_L L xs 463 [(0, .ref 2), (1, .ref 0), (2, .ref 1), (3, .int (nI (6 * n)))] [] μx μm := by
  obtain ⟨r, hx, hm, hI2⟩ := hO n μx μm hn hI (xs ((nI (6 * n)) + 1).toNatClampNeg)
  refine wl_aload_n (pc := 463) d_law_463 1 rfl rfl ?_
  refine wl_aload_n (pc := 464) d_law_464 0 rfl rfl ?_
  refine wl_iload_n (pc := 465) d_law_465 3 rfl rfl ?_
  refine wl_iconst (pc := 466) d_law_466 (v := 1) (by decide) ?_
  refine wl_iadd (pc := 467) d_law_467 ?_
  refine wl_sld (pc := 468) d_law_468 (wl_in hL hb (j := 1) (by decide) (wl_n1 n)) ?_
  refine wl_callX (pc := 469) d_law_469 mv_L_56 (as := [.int (xs ((nI (6 * n)) + 1).toNatClampNeg)]) (c_X_count hx) (by decide) rfl (fun _ _ => rfl) rfl (Nat.le_of_ble_eq_true rfl) ?_
  refine wl_aload_n (pc := 472) d_law_472 2 rfl rfl ?_
  refine wl_aload_n (pc := 473) d_law_473 0 rfl rfl ?_
  refine wl_iload_n (pc := 474) d_law_474 3 rfl rfl ?_
  refine wl_iconst (pc := 475) d_law_475 (v := 1) (by decide) ?_
  refine wl_iadd (pc := 476) d_law_476 ?_
  refine wl_sld (pc := 477) d_law_477 (wl_in hL hb (j := 1) (by decide) (wl_n1 n)) ?_
  refine wl_callM (pc := 478) d_law_478 mv_L_59 (as := [.int (xs ((nI (6 * n)) + 1).toNatClampNeg)]) (c_M_count hm) (by decide) rfl (fun _ _ => rfl) rfl (Nat.le_of_ble_eq_true rfl) ?_
  refine wl_eq (pc := 481) (tgt := 1092) d_law_481 rfl ?_
  exact hk _ _ hI2
set_option maxHeartbeats 4000000 in
theorem wl_case10 {I : Nat → fw_M → fw_M → Prop} (hO : fw_O_can I) {L n : Nat} {xs : Nat → Int32} {μx μm : fw_M} (hL : L ≤ 3072) (hb : 6 * n + 6 ≤ L) (hn : n < 512) (hI : I n μx μm) (hk : ∀ νx νm, I (n + 1) νx νm → fw_L L xs 1092 [(0, .ref 2), (1, .ref 0), (2, .ref 1), (3, .int (nI (6 * n)))] [] νx νm) : fw_L L xs 486 [(0, .ref 2), (1, .ref 0), (2, .ref 1), (3, .int (nI (6 * n)))] [] μx μm := by
  obtain ⟨r, νx, νm, hx, hm, hI2⟩ := hO n μx μm hn hI (xs ((nI (6 * n)) + 1).toNatClampNeg)
  refine wl_aload_n (pc := 486) d_law_486 1 rfl rfl ?_
  refine wl_aload_n (pc := 487) d_law_487 0 rfl rfl ?_
  refine wl_iload_n (pc := 488) d_law_488 3 rfl rfl ?_
  refine wl_iconst (pc := 489) d_law_489 (v := 1) (by decide) ?_
  refine wl_iadd (pc := 490) d_law_490 ?_
  refine wl_sld (pc := 491) d_law_491 (wl_in hL hb (j := 1) (by decide) (wl_n1 n)) ?_
  refine wl_callX (pc := 492) d_law_492 mv_L_60 (as := [.int (xs ((nI (6 * n)) + 1).toNatClampNeg)]) (c_X_can hx) (by decide) rfl (fun _ _ => rfl) rfl (Nat.le_of_ble_eq_true rfl) ?_
  refine wl_aload_n (pc := 495) d_law_495 2 rfl rfl ?_
  refine wl_aload_n (pc := 496) d_law_496 0 rfl rfl ?_
  refine wl_iload_n (pc := 497) d_law_497 3 rfl rfl ?_
  refine wl_iconst (pc := 498) d_law_498 (v := 1) (by decide) ?_
  refine wl_iadd (pc := 499) d_law_499 ?_
  refine wl_sld (pc := 500) d_law_500 (wl_in hL hb (j := 1) (by decide) (wl_n1 n)) ?_
  refine wl_callM (pc := 501) d_law_501 mv_L_63 (as := [.int (xs ((nI (6 * n)) + 1).toNatClampNeg)]) (c_M_can hm) (by decide) rfl (fun _ _ => rfl) rfl (Nat.le_of_ble_eq_true rfl) ?_
  refine wl_eq (pc := 504) (tgt := 1092) d_law_504 rfl ?_
  exact hk _ _ hI2
set_option maxHeartbeats 4000000 in
theorem wl_case11 {I : Nat → fw_M → fw_M → Prop} (hO : fw_O_by I) {L n : Nat} {xs : Nat → Int32} {μx μm : fw_M} (hL : L ≤ 3072) (hb : 6 * n + 6 ≤ L) (hn : n < 512) (hI : I n μx μm) (hk : ∀ νx νm, I (n + 1) νx νm → fw_L L xs 1092 [(0, .ref 2), (1, .ref 0), (2, .ref 1), (3, .int (nI (6 * n)))] [] νx νm) : fw_L L xs 509 [(0, .ref 2), (1, .ref 0), (2, .ref 1), (3, .int (nI (6 * n)))] [] μx μm := by
  obtain ⟨r, νx, νm, hx, hm, hI2⟩ := hO n μx μm hn hI (xs ((nI (6 * n)) + 1).toNatClampNeg) (xs ((nI (6 * n)) + 2).toNatClampNeg)
  refine wl_aload_n (pc := 509) d_law_509 1 rfl rfl ?_
  refine wl_aload_n (pc := 510) d_law_510 0 rfl rfl ?_
  refine wl_iload_n (pc := 511) d_law_511 3 rfl rfl ?_
  refine wl_iconst (pc := 512) d_law_512 (v := 1) (by decide) ?_
  refine wl_iadd (pc := 513) d_law_513 ?_
  refine wl_sld (pc := 514) d_law_514 (wl_in hL hb (j := 1) (by decide) (wl_n1 n)) ?_
  refine wl_aload_n (pc := 515) d_law_515 0 rfl rfl ?_
  refine wl_iload_n (pc := 516) d_law_516 3 rfl rfl ?_
  refine wl_iconst (pc := 517) d_law_517 (v := 2) (by decide) ?_
  refine wl_iadd (pc := 518) d_law_518 ?_
  refine wl_sld (pc := 519) d_law_519 (wl_in hL hb (j := 2) (by decide) (wl_n2 n)) ?_
  refine wl_callX (pc := 520) d_law_520 mv_L_64 (as := [.int (xs ((nI (6 * n)) + 1).toNatClampNeg), .int (xs ((nI (6 * n)) + 2).toNatClampNeg)]) (c_X_by hx) (by decide) rfl (fun _ _ => rfl) rfl (Nat.le_of_ble_eq_true rfl) ?_
  refine wl_aload_n (pc := 523) d_law_523 2 rfl rfl ?_
  refine wl_aload_n (pc := 524) d_law_524 0 rfl rfl ?_
  refine wl_iload_n (pc := 525) d_law_525 3 rfl rfl ?_
  refine wl_iconst (pc := 526) d_law_526 (v := 1) (by decide) ?_
  refine wl_iadd (pc := 527) d_law_527 ?_
  refine wl_sld (pc := 528) d_law_528 (wl_in hL hb (j := 1) (by decide) (wl_n1 n)) ?_
  refine wl_aload_n (pc := 529) d_law_529 0 rfl rfl ?_
  refine wl_iload_n (pc := 530) d_law_530 3 rfl rfl ?_
  refine wl_iconst (pc := 531) d_law_531 (v := 2) (by decide) ?_
  refine wl_iadd (pc := 532) d_law_532 ?_
  refine wl_sld (pc := 533) d_law_533 (wl_in hL hb (j := 2) (by decide) (wl_n2 n)) ?_
  refine wl_callM (pc := 534) d_law_534 mv_L_67 (as := [.int (xs ((nI (6 * n)) + 1).toNatClampNeg), .int (xs ((nI (6 * n)) + 2).toNatClampNeg)]) (c_M_by hm) (by decide) rfl (fun _ _ => rfl) rfl (Nat.le_of_ble_eq_true rfl) ?_
  refine wl_eq (pc := 537) (tgt := 1092) d_law_537 rfl ?_
  exact hk _ _ hI2
set_option maxHeartbeats 4000000 in
theorem wl_case12 {I : Nat → fw_M → fw_M → Prop} (hO : fw_O_fewest I) {L n : Nat} {xs : Nat → Int32} {μx μm : fw_M} (hL : L ≤ 3072) (hb : 6 * n + 6 ≤ L) (hn : n < 512) (hI : I n μx μm) (hk : ∀ νx νm, I (n + 1) νx νm → fw_L L xs 1092 [(0, .ref 2), (1, .ref 0), (2, .ref 1), (3, .int (nI (6 * n)))] [] νx νm) : fw_L L xs 542 [(0, .ref 2), (1, .ref 0), (2, .ref 1), (3, .int (nI (6 * n)))] [] μx μm := by
  obtain ⟨r, νx, νm, hx, hm, hI2⟩ := hO n μx μm hn hI
  refine wl_aload_n (pc := 542) d_law_542 1 rfl rfl ?_
  refine wl_callX (pc := 543) d_law_543 mv_L_68 (as := []) (c_X_fewest hx) (by decide) rfl (fun _ _ => rfl) rfl (Nat.le_of_ble_eq_true rfl) ?_
  refine wl_aload_n (pc := 546) d_law_546 2 rfl rfl ?_
  refine wl_callM (pc := 547) d_law_547 mv_L_71 (as := []) (c_M_fewest hm) (by decide) rfl (fun _ _ => rfl) rfl (Nat.le_of_ble_eq_true rfl) ?_
  refine wl_eq (pc := 550) (tgt := 1092) d_law_550 rfl ?_
  exact hk _ _ hI2
set_option maxHeartbeats 4000000 in
theorem wl_case13 {I : Nat → fw_M → fw_M → Prop} (hO : fw_O_plan I) {L n : Nat} {xs : Nat → Int32} {μx μm : fw_M} (hL : L ≤ 3072) (hb : 6 * n + 6 ≤ L) (hn : n < 512) (hI : I n μx μm) (hk : ∀ νx νm, I (n + 1) νx νm → fw_L L xs 1092 [(0, .ref 2), (1, .ref 0), (2, .ref 1), (3, .int (nI (6 * n)))] [] νx νm) : fw_L L xs 555 [(0, .ref 2), (1, .ref 0), (2, .ref 1), (3, .int (nI (6 * n)))] [] μx μm := by
  obtain ⟨r, νx, νm, hx, hm, hI2⟩ := hO n μx μm hn hI (xs ((nI (6 * n)) + 1).toNatClampNeg)
  refine wl_aload_n (pc := 555) d_law_555 1 rfl rfl ?_
  refine wl_aload_n (pc := 556) d_law_556 0 rfl rfl ?_
  refine wl_iload_n (pc := 557) d_law_557 3 rfl rfl ?_
  refine wl_iconst (pc := 558) d_law_558 (v := 1) (by decide) ?_
  refine wl_iadd (pc := 559) d_law_559 ?_
  refine wl_sld (pc := 560) d_law_560 (wl_in hL hb (j := 1) (by decide) (wl_n1 n)) ?_
  refine wl_callX (pc := 561) d_law_561 mv_L_72 (as := [.int (xs ((nI (6 * n)) + 1).toNatClampNeg)]) (c_X_plan hx) (by decide) rfl (fun _ _ => rfl) rfl (Nat.le_of_ble_eq_true rfl) ?_
  refine wl_aload_n (pc := 564) d_law_564 2 rfl rfl ?_
  refine wl_aload_n (pc := 565) d_law_565 0 rfl rfl ?_
  refine wl_iload_n (pc := 566) d_law_566 3 rfl rfl ?_
  refine wl_iconst (pc := 567) d_law_567 (v := 1) (by decide) ?_
  refine wl_iadd (pc := 568) d_law_568 ?_
  refine wl_sld (pc := 569) d_law_569 (wl_in hL hb (j := 1) (by decide) (wl_n1 n)) ?_
  refine wl_callM (pc := 570) d_law_570 mv_L_75 (as := [.int (xs ((nI (6 * n)) + 1).toNatClampNeg)]) (c_M_plan hm) (by decide) rfl (fun _ _ => rfl) rfl (Nat.le_of_ble_eq_true rfl) ?_
  refine wl_eq (pc := 573) (tgt := 1092) d_law_573 rfl ?_
  exact hk _ _ hI2
set_option maxHeartbeats 4000000 in
theorem wl_case14 {I : Nat → fw_M → fw_M → Prop} (hO : fw_O_bound I) {L n : Nat} {xs : Nat → Int32} {μx μm : fw_M} (hL : L ≤ 3072) (hb : 6 * n + 6 ≤ L) (hn : n < 512) (hI : I n μx μm) (hk : ∀ νx νm, I (n + 1) νx νm → fw_L L xs 1092 [(0, .ref 2), (1, .ref 0), (2, .ref 1), (3, .int (nI (6 * n)))] [] νx νm) : fw_L L xs 578 [(0, .ref 2), (1, .ref 0), (2, .ref 1), (3, .int (nI (6 * n)))] [] μx μm := by
  obtain ⟨r, hx, hm, hI2⟩ := hO n μx μm hn hI
  refine wl_aload_n (pc := 578) d_law_578 1 rfl rfl ?_
  refine wl_callX (pc := 579) d_law_579 mv_L_76 (as := []) (c_X_bound hx) (by decide) rfl (fun _ _ => rfl) rfl (Nat.le_of_ble_eq_true rfl) ?_
  refine wl_aload_n (pc := 582) d_law_582 2 rfl rfl ?_
  refine wl_callM (pc := 583) d_law_583 mv_L_79 (as := []) (c_M_bound hm) (by decide) rfl (fun _ _ => rfl) rfl (Nat.le_of_ble_eq_true rfl) ?_
  refine wl_eq (pc := 586) (tgt := 1092) d_law_586 rfl ?_
  exact hk _ _ hI2
set_option maxHeartbeats 4000000 in
theorem wl_case15 {I : Nat → fw_M → fw_M → Prop} (hO : fw_O_order I) {L n : Nat} {xs : Nat → Int32} {μx μm : fw_M} (hL : L ≤ 3072) (hb : 6 * n + 6 ≤ L) (hn : n < 512) (hI : I n μx μm) (hk : ∀ νx νm, I (n + 1) νx νm → fw_L L xs 1092 [(0, .ref 2), (1, .ref 0), (2, .ref 1), (3, .int (nI (6 * n)))] [] νx νm) : fw_L L xs 591 [(0, .ref 2), (1, .ref 0), (2, .ref 1), (3, .int (nI (6 * n)))] [] μx μm := by
  obtain ⟨r, νx, νm, hx, hm, hI2⟩ := hO n μx μm hn hI (xs ((nI (6 * n)) + 1).toNatClampNeg)
  refine wl_aload_n (pc := 591) d_law_591 1 rfl rfl ?_
  refine wl_aload_n (pc := 592) d_law_592 0 rfl rfl ?_
  refine wl_iload_n (pc := 593) d_law_593 3 rfl rfl ?_
  refine wl_iconst (pc := 594) d_law_594 (v := 1) (by decide) ?_
  refine wl_iadd (pc := 595) d_law_595 ?_
  refine wl_sld (pc := 596) d_law_596 (wl_in hL hb (j := 1) (by decide) (wl_n1 n)) ?_
  refine wl_callX (pc := 597) d_law_597 mv_L_80 (as := [.int (xs ((nI (6 * n)) + 1).toNatClampNeg)]) (c_X_order hx) (by decide) rfl (fun _ _ => rfl) rfl (Nat.le_of_ble_eq_true rfl) ?_
  refine wl_aload_n (pc := 600) d_law_600 2 rfl rfl ?_
  refine wl_aload_n (pc := 601) d_law_601 0 rfl rfl ?_
  refine wl_iload_n (pc := 602) d_law_602 3 rfl rfl ?_
  refine wl_iconst (pc := 603) d_law_603 (v := 1) (by decide) ?_
  refine wl_iadd (pc := 604) d_law_604 ?_
  refine wl_sld (pc := 605) d_law_605 (wl_in hL hb (j := 1) (by decide) (wl_n1 n)) ?_
  refine wl_callM (pc := 606) d_law_606 mv_L_83 (as := [.int (xs ((nI (6 * n)) + 1).toNatClampNeg)]) (c_M_order hm) (by decide) rfl (fun _ _ => rfl) rfl (Nat.le_of_ble_eq_true rfl) ?_
  refine wl_eq (pc := 609) (tgt := 1092) d_law_609 rfl ?_
  exact hk _ _ hI2
set_option maxHeartbeats 4000000 in
theorem wl_case16 {I : Nat → fw_M → fw_M → Prop} (hO : fw_O_make I) {L n : Nat} {xs : Nat → Int32} {μx μm : fw_M} (hL : L ≤ 3072) (hb : 6 * n + 6 ≤ L) (hn : n < 512) (hI : I n μx μm) (hk : ∀ νx νm, I (n + 1) νx νm → fw_L L xs 1092 [(0, .ref 2), (1, .ref 0), (2, .ref 1), (3, .int (nI (6 * n)))] [] νx νm) : fw_L L xs 614 [(0, .ref 2), (1, .ref 0), (2, .ref 1), (3, .int (nI (6 * n)))] [] μx μm := by
  obtain ⟨r, νx, νm, hx, hm, hI2⟩ := hO n μx μm hn hI (xs ((nI (6 * n)) + 1).toNatClampNeg)
  refine wl_aload_n (pc := 614) d_law_614 1 rfl rfl ?_
  refine wl_aload_n (pc := 615) d_law_615 0 rfl rfl ?_
  refine wl_iload_n (pc := 616) d_law_616 3 rfl rfl ?_
  refine wl_iconst (pc := 617) d_law_617 (v := 1) (by decide) ?_
  refine wl_iadd (pc := 618) d_law_618 ?_
  refine wl_sld (pc := 619) d_law_619 (wl_in hL hb (j := 1) (by decide) (wl_n1 n)) ?_
  refine wl_callX (pc := 620) d_law_620 mv_L_84 (as := [.int (xs ((nI (6 * n)) + 1).toNatClampNeg)]) (c_X_make hx) (by decide) rfl (fun _ _ => rfl) rfl (Nat.le_of_ble_eq_true rfl) ?_
  refine wl_aload_n (pc := 623) d_law_623 2 rfl rfl ?_
  refine wl_aload_n (pc := 624) d_law_624 0 rfl rfl ?_
  refine wl_iload_n (pc := 625) d_law_625 3 rfl rfl ?_
  refine wl_iconst (pc := 626) d_law_626 (v := 1) (by decide) ?_
  refine wl_iadd (pc := 627) d_law_627 ?_
  refine wl_sld (pc := 628) d_law_628 (wl_in hL hb (j := 1) (by decide) (wl_n1 n)) ?_
  refine wl_callM (pc := 629) d_law_629 mv_L_87 (as := [.int (xs ((nI (6 * n)) + 1).toNatClampNeg)]) (c_M_make hm) (by decide) rfl (fun _ _ => rfl) rfl (Nat.le_of_ble_eq_true rfl) ?_
  refine wl_eq (pc := 632) (tgt := 1092) d_law_632 rfl ?_
  exact hk _ _ hI2
set_option maxHeartbeats 4000000 in
theorem wl_case17 {I : Nat → fw_M → fw_M → Prop} (hO : fw_O_text I) {L n : Nat} {xs : Nat → Int32} {μx μm : fw_M} (hL : L ≤ 3072) (hb : 6 * n + 6 ≤ L) (hn : n < 512) (hI : I n μx μm) (hk : ∀ νx νm, I (n + 1) νx νm → fw_L L xs 1092 [(0, .ref 2), (1, .ref 0), (2, .ref 1), (3, .int (nI (6 * n)))] [] νx νm) : fw_L L xs 637 [(0, .ref 2), (1, .ref 0), (2, .ref 1), (3, .int (nI (6 * n)))] [] μx μm := by
  obtain ⟨r, νx, νm, hx, hm, hI2⟩ := hO n μx μm hn hI (xs ((nI (6 * n)) + 1).toNatClampNeg)
  refine wl_aload_n (pc := 637) d_law_637 1 rfl rfl ?_
  refine wl_aload_n (pc := 638) d_law_638 0 rfl rfl ?_
  refine wl_iload_n (pc := 639) d_law_639 3 rfl rfl ?_
  refine wl_iconst (pc := 640) d_law_640 (v := 1) (by decide) ?_
  refine wl_iadd (pc := 641) d_law_641 ?_
  refine wl_sld (pc := 642) d_law_642 (wl_in hL hb (j := 1) (by decide) (wl_n1 n)) ?_
  refine wl_callX (pc := 643) d_law_643 mv_L_88 (as := [.int (xs ((nI (6 * n)) + 1).toNatClampNeg)]) (c_X_text hx) (by decide) rfl (fun _ _ => rfl) rfl (Nat.le_of_ble_eq_true rfl) ?_
  refine wl_aload_n (pc := 646) d_law_646 2 rfl rfl ?_
  refine wl_aload_n (pc := 647) d_law_647 0 rfl rfl ?_
  refine wl_iload_n (pc := 648) d_law_648 3 rfl rfl ?_
  refine wl_iconst (pc := 649) d_law_649 (v := 1) (by decide) ?_
  refine wl_iadd (pc := 650) d_law_650 ?_
  refine wl_sld (pc := 651) d_law_651 (wl_in hL hb (j := 1) (by decide) (wl_n1 n)) ?_
  refine wl_callM (pc := 652) d_law_652 mv_L_91 (as := [.int (xs ((nI (6 * n)) + 1).toNatClampNeg)]) (c_M_text hm) (by decide) rfl (fun _ _ => rfl) rfl (Nat.le_of_ble_eq_true rfl) ?_
  refine wl_eq (pc := 655) (tgt := 1092) d_law_655 rfl ?_
  exact hk _ _ hI2
set_option maxHeartbeats 4000000 in
theorem wl_case18 {I : Nat → fw_M → fw_M → Prop} (hO : fw_O_needs I) {L n : Nat} {xs : Nat → Int32} {μx μm : fw_M} (hL : L ≤ 3072) (hb : 6 * n + 6 ≤ L) (hn : n < 512) (hI : I n μx μm) (hk : ∀ νx νm, I (n + 1) νx νm → fw_L L xs 1092 [(0, .ref 2), (1, .ref 0), (2, .ref 1), (3, .int (nI (6 * n)))] [] νx νm) : fw_L L xs 660 [(0, .ref 2), (1, .ref 0), (2, .ref 1), (3, .int (nI (6 * n)))] [] μx μm := by
  obtain ⟨r, νx, νm, hx, hm, hI2⟩ := hO n μx μm hn hI (xs ((nI (6 * n)) + 1).toNatClampNeg)
  refine wl_aload_n (pc := 660) d_law_660 1 rfl rfl ?_
  refine wl_aload_n (pc := 661) d_law_661 0 rfl rfl ?_
  refine wl_iload_n (pc := 662) d_law_662 3 rfl rfl ?_
  refine wl_iconst (pc := 663) d_law_663 (v := 1) (by decide) ?_
  refine wl_iadd (pc := 664) d_law_664 ?_
  refine wl_sld (pc := 665) d_law_665 (wl_in hL hb (j := 1) (by decide) (wl_n1 n)) ?_
  refine wl_callX (pc := 666) d_law_666 mv_L_92 (as := [.int (xs ((nI (6 * n)) + 1).toNatClampNeg)]) (c_X_needs hx) (by decide) rfl (fun _ _ => rfl) rfl (Nat.le_of_ble_eq_true rfl) ?_
  refine wl_aload_n (pc := 669) d_law_669 2 rfl rfl ?_
  refine wl_aload_n (pc := 670) d_law_670 0 rfl rfl ?_
  refine wl_iload_n (pc := 671) d_law_671 3 rfl rfl ?_
  refine wl_iconst (pc := 672) d_law_672 (v := 1) (by decide) ?_
  refine wl_iadd (pc := 673) d_law_673 ?_
  refine wl_sld (pc := 674) d_law_674 (wl_in hL hb (j := 1) (by decide) (wl_n1 n)) ?_
  refine wl_callM (pc := 675) d_law_675 mv_L_95 (as := [.int (xs ((nI (6 * n)) + 1).toNatClampNeg)]) (c_M_needs hm) (by decide) rfl (fun _ _ => rfl) rfl (Nat.le_of_ble_eq_true rfl) ?_
  refine wl_eq (pc := 678) (tgt := 1092) d_law_678 rfl ?_
  exact hk _ _ hI2
set_option maxHeartbeats 4000000 in
theorem wl_case19 {I : Nat → fw_M → fw_M → Prop} (hO : fw_O_lost I) {L n : Nat} {xs : Nat → Int32} {μx μm : fw_M} (hL : L ≤ 3072) (hb : 6 * n + 6 ≤ L) (hn : n < 512) (hI : I n μx μm) (hk : ∀ νx νm, I (n + 1) νx νm → fw_L L xs 1092 [(0, .ref 2), (1, .ref 0), (2, .ref 1), (3, .int (nI (6 * n)))] [] νx νm) : fw_L L xs 683 [(0, .ref 2), (1, .ref 0), (2, .ref 1), (3, .int (nI (6 * n)))] [] μx μm := by
  obtain ⟨r, νm, hx, hm, hI2⟩ := hO n μx μm hn hI (xs ((nI (6 * n)) + 1).toNatClampNeg)
  refine wl_aload_n (pc := 683) d_law_683 1 rfl rfl ?_
  refine wl_aload_n (pc := 684) d_law_684 0 rfl rfl ?_
  refine wl_iload_n (pc := 685) d_law_685 3 rfl rfl ?_
  refine wl_iconst (pc := 686) d_law_686 (v := 1) (by decide) ?_
  refine wl_iadd (pc := 687) d_law_687 ?_
  refine wl_sld (pc := 688) d_law_688 (wl_in hL hb (j := 1) (by decide) (wl_n1 n)) ?_
  refine wl_callX (pc := 689) d_law_689 mv_L_96 (as := [.int (xs ((nI (6 * n)) + 1).toNatClampNeg)]) (c_X_lost hx) (by decide) rfl (fun _ _ => rfl) rfl (Nat.le_of_ble_eq_true rfl) ?_
  refine wl_aload_n (pc := 692) d_law_692 2 rfl rfl ?_
  refine wl_aload_n (pc := 693) d_law_693 0 rfl rfl ?_
  refine wl_iload_n (pc := 694) d_law_694 3 rfl rfl ?_
  refine wl_iconst (pc := 695) d_law_695 (v := 1) (by decide) ?_
  refine wl_iadd (pc := 696) d_law_696 ?_
  refine wl_sld (pc := 697) d_law_697 (wl_in hL hb (j := 1) (by decide) (wl_n1 n)) ?_
  refine wl_callM (pc := 698) d_law_698 mv_L_99 (as := [.int (xs ((nI (6 * n)) + 1).toNatClampNeg)]) (c_M_lost hm) (by decide) rfl (fun _ _ => rfl) rfl (Nat.le_of_ble_eq_true rfl) ?_
  refine wl_eq (pc := 701) (tgt := 1092) d_law_701 rfl ?_
  exact hk _ _ hI2
set_option maxHeartbeats 4000000 in
theorem wl_case20 {I : Nat → fw_M → fw_M → Prop} (hO : fw_O_said I) {L n : Nat} {xs : Nat → Int32} {μx μm : fw_M} (hL : L ≤ 3072) (hb : 6 * n + 6 ≤ L) (hn : n < 512) (hI : I n μx μm) (hk : ∀ νx νm, I (n + 1) νx νm → fw_L L xs 1092 [(0, .ref 2), (1, .ref 0), (2, .ref 1), (3, .int (nI (6 * n)))] [] νx νm) : fw_L L xs 706 [(0, .ref 2), (1, .ref 0), (2, .ref 1), (3, .int (nI (6 * n)))] [] μx μm := by
  obtain ⟨r, νx, νm, hx, hm, hI2⟩ := hO n μx μm hn hI (xs ((nI (6 * n)) + 1).toNatClampNeg)
  refine wl_aload_n (pc := 706) d_law_706 1 rfl rfl ?_
  refine wl_aload_n (pc := 707) d_law_707 0 rfl rfl ?_
  refine wl_iload_n (pc := 708) d_law_708 3 rfl rfl ?_
  refine wl_iconst (pc := 709) d_law_709 (v := 1) (by decide) ?_
  refine wl_iadd (pc := 710) d_law_710 ?_
  refine wl_sld (pc := 711) d_law_711 (wl_in hL hb (j := 1) (by decide) (wl_n1 n)) ?_
  refine wl_callX (pc := 712) d_law_712 mv_L_100 (as := [.int (xs ((nI (6 * n)) + 1).toNatClampNeg)]) (c_X_said hx) (by decide) rfl (fun _ _ => rfl) rfl (Nat.le_of_ble_eq_true rfl) ?_
  refine wl_aload_n (pc := 715) d_law_715 2 rfl rfl ?_
  refine wl_aload_n (pc := 716) d_law_716 0 rfl rfl ?_
  refine wl_iload_n (pc := 717) d_law_717 3 rfl rfl ?_
  refine wl_iconst (pc := 718) d_law_718 (v := 1) (by decide) ?_
  refine wl_iadd (pc := 719) d_law_719 ?_
  refine wl_sld (pc := 720) d_law_720 (wl_in hL hb (j := 1) (by decide) (wl_n1 n)) ?_
  refine wl_callM (pc := 721) d_law_721 mv_L_103 (as := [.int (xs ((nI (6 * n)) + 1).toNatClampNeg)]) (c_M_said hm) (by decide) rfl (fun _ _ => rfl) rfl (Nat.le_of_ble_eq_true rfl) ?_
  refine wl_eq (pc := 724) (tgt := 1092) d_law_724 rfl ?_
  exact hk _ _ hI2
set_option maxHeartbeats 4000000 in
theorem wl_case21 {I : Nat → fw_M → fw_M → Prop} (hO : fw_O_job I) {L n : Nat} {xs : Nat → Int32} {μx μm : fw_M} (hL : L ≤ 3072) (hb : 6 * n + 6 ≤ L) (hn : n < 512) (hI : I n μx μm) (hk : ∀ νx νm, I (n + 1) νx νm → fw_L L xs 1092 [(0, .ref 2), (1, .ref 0), (2, .ref 1), (3, .int (nI (6 * n)))] [] νx νm) : fw_L L xs 729 [(0, .ref 2), (1, .ref 0), (2, .ref 1), (3, .int (nI (6 * n)))] [] μx μm := by
  obtain ⟨r, νx, νm, hx, hm, hI2⟩ := hO n μx μm hn hI (xs ((nI (6 * n)) + 1).toNatClampNeg) (xs ((nI (6 * n)) + 2).toNatClampNeg)
  refine wl_aload_n (pc := 729) d_law_729 1 rfl rfl ?_
  refine wl_aload_n (pc := 730) d_law_730 0 rfl rfl ?_
  refine wl_iload_n (pc := 731) d_law_731 3 rfl rfl ?_
  refine wl_iconst (pc := 732) d_law_732 (v := 1) (by decide) ?_
  refine wl_iadd (pc := 733) d_law_733 ?_
  refine wl_sld (pc := 734) d_law_734 (wl_in hL hb (j := 1) (by decide) (wl_n1 n)) ?_
  refine wl_aload_n (pc := 735) d_law_735 0 rfl rfl ?_
  refine wl_iload_n (pc := 736) d_law_736 3 rfl rfl ?_
  refine wl_iconst (pc := 737) d_law_737 (v := 2) (by decide) ?_
  refine wl_iadd (pc := 738) d_law_738 ?_
  refine wl_sld (pc := 739) d_law_739 (wl_in hL hb (j := 2) (by decide) (wl_n2 n)) ?_
  refine wl_callX (pc := 740) d_law_740 mv_L_104 (as := [.int (xs ((nI (6 * n)) + 1).toNatClampNeg), .int (xs ((nI (6 * n)) + 2).toNatClampNeg)]) (c_X_job hx) (by decide) rfl (fun _ _ => rfl) rfl (Nat.le_of_ble_eq_true rfl) ?_
  refine wl_aload_n (pc := 743) d_law_743 2 rfl rfl ?_
  refine wl_aload_n (pc := 744) d_law_744 0 rfl rfl ?_
  refine wl_iload_n (pc := 745) d_law_745 3 rfl rfl ?_
  refine wl_iconst (pc := 746) d_law_746 (v := 1) (by decide) ?_
  refine wl_iadd (pc := 747) d_law_747 ?_
  refine wl_sld (pc := 748) d_law_748 (wl_in hL hb (j := 1) (by decide) (wl_n1 n)) ?_
  refine wl_aload_n (pc := 749) d_law_749 0 rfl rfl ?_
  refine wl_iload_n (pc := 750) d_law_750 3 rfl rfl ?_
  refine wl_iconst (pc := 751) d_law_751 (v := 2) (by decide) ?_
  refine wl_iadd (pc := 752) d_law_752 ?_
  refine wl_sld (pc := 753) d_law_753 (wl_in hL hb (j := 2) (by decide) (wl_n2 n)) ?_
  refine wl_callM (pc := 754) d_law_754 mv_L_107 (as := [.int (xs ((nI (6 * n)) + 1).toNatClampNeg), .int (xs ((nI (6 * n)) + 2).toNatClampNeg)]) (c_M_job hm) (by decide) rfl (fun _ _ => rfl) rfl (Nat.le_of_ble_eq_true rfl) ?_
  refine wl_eq (pc := 757) (tgt := 1092) d_law_757 rfl ?_
  exact hk _ _ hI2
set_option maxHeartbeats 4000000 in
theorem wl_case22 {I : Nat → fw_M → fw_M → Prop} (hO : fw_O_done I) {L n : Nat} {xs : Nat → Int32} {μx μm : fw_M} (hL : L ≤ 3072) (hb : 6 * n + 6 ≤ L) (hn : n < 512) (hI : I n μx μm) (hk : ∀ νx νm, I (n + 1) νx νm → fw_L L xs 1092 [(0, .ref 2), (1, .ref 0), (2, .ref 1), (3, .int (nI (6 * n)))] [] νx νm) : fw_L L xs 762 [(0, .ref 2), (1, .ref 0), (2, .ref 1), (3, .int (nI (6 * n)))] [] μx μm := by
  obtain ⟨r, νx, hx, hm, hI2⟩ := hO n μx μm hn hI
  refine wl_aload_n (pc := 762) d_law_762 1 rfl rfl ?_
  refine wl_callX (pc := 763) d_law_763 mv_L_108 (as := []) (c_X_done hx) (by decide) rfl (fun _ _ => rfl) rfl (Nat.le_of_ble_eq_true rfl) ?_
  refine wl_aload_n (pc := 766) d_law_766 2 rfl rfl ?_
  refine wl_callM (pc := 767) d_law_767 mv_L_111 (as := []) (c_M_done hm) (by decide) rfl (fun _ _ => rfl) rfl (Nat.le_of_ble_eq_true rfl) ?_
  refine wl_eq (pc := 770) (tgt := 1092) d_law_770 rfl ?_
  exact hk _ _ hI2
set_option maxHeartbeats 4000000 in
theorem wl_case23 {I : Nat → fw_M → fw_M → Prop} (hO : fw_O_clear I) {L n : Nat} {xs : Nat → Int32} {μx μm : fw_M} (hL : L ≤ 3072) (hb : 6 * n + 6 ≤ L) (hn : n < 512) (hI : I n μx μm) (hk : ∀ νx νm, I (n + 1) νx νm → fw_L L xs 1092 [(0, .ref 2), (1, .ref 0), (2, .ref 1), (3, .int (nI (6 * n)))] [] νx νm) : fw_L L xs 775 [(0, .ref 2), (1, .ref 0), (2, .ref 1), (3, .int (nI (6 * n)))] [] μx μm := by
  obtain ⟨r, νx, νm, hx, hm, hI2⟩ := hO n μx μm hn hI
  refine wl_aload_n (pc := 775) d_law_775 1 rfl rfl ?_
  refine wl_callX (pc := 776) d_law_776 mv_L_112 (as := []) (c_X_clear hx) (by decide) rfl (fun _ _ => rfl) rfl (Nat.le_of_ble_eq_true rfl) ?_
  refine wl_aload_n (pc := 779) d_law_779 2 rfl rfl ?_
  refine wl_callM (pc := 780) d_law_780 mv_L_115 (as := []) (c_M_clear hm) (by decide) rfl (fun _ _ => rfl) rfl (Nat.le_of_ble_eq_true rfl) ?_
  refine wl_eq (pc := 783) (tgt := 1092) d_law_783 rfl ?_
  exact hk _ _ hI2
set_option maxHeartbeats 4000000 in
theorem wl_case24 {I : Nat → fw_M → fw_M → Prop} (hO : fw_O_image I) {L n : Nat} {xs : Nat → Int32} {μx μm : fw_M} (hL : L ≤ 3072) (hb : 6 * n + 6 ≤ L) (hn : n < 512) (hI : I n μx μm) (hk : ∀ νx νm, I (n + 1) νx νm → fw_L L xs 1092 [(0, .ref 2), (1, .ref 0), (2, .ref 1), (3, .int (nI (6 * n)))] [] νx νm) : fw_L L xs 788 [(0, .ref 2), (1, .ref 0), (2, .ref 1), (3, .int (nI (6 * n)))] [] μx μm := by
  obtain ⟨r, νx, νm, hx, hm, hI2⟩ := hO n μx μm hn hI
  refine wl_aload_n (pc := 788) d_law_788 1 rfl rfl ?_
  refine wl_callX (pc := 789) d_law_789 mv_L_116 (as := []) (c_X_image hx) (by decide) rfl (fun _ _ => rfl) rfl (Nat.le_of_ble_eq_true rfl) ?_
  refine wl_aload_n (pc := 792) d_law_792 2 rfl rfl ?_
  refine wl_callM (pc := 793) d_law_793 mv_L_119 (as := []) (c_M_image hm) (by decide) rfl (fun _ _ => rfl) rfl (Nat.le_of_ble_eq_true rfl) ?_
  refine wl_eq (pc := 796) (tgt := 1092) d_law_796 rfl ?_
  exact hk _ _ hI2
set_option maxHeartbeats 4000000 in
theorem wl_case25 {I : Nat → fw_M → fw_M → Prop} (hO : fw_O_restore I) {L n : Nat} {xs : Nat → Int32} {μx μm : fw_M} (hL : L ≤ 3072) (hb : 6 * n + 6 ≤ L) (hn : n < 512) (hI : I n μx μm) (hk : ∀ νx νm, I (n + 1) νx νm → fw_L L xs 1092 [(0, .ref 2), (1, .ref 0), (2, .ref 1), (3, .int (nI (6 * n)))] [] νx νm) : fw_L L xs 801 [(0, .ref 2), (1, .ref 0), (2, .ref 1), (3, .int (nI (6 * n)))] [] μx μm := by
  obtain ⟨r, νx, νm, hx, hm, hI2⟩ := hO n μx μm hn hI
  refine wl_aload_n (pc := 801) d_law_801 1 rfl rfl ?_
  refine wl_callX (pc := 802) d_law_802 mv_L_120 (as := []) (c_X_restore hx) (by decide) rfl (fun _ _ => rfl) rfl (Nat.le_of_ble_eq_true rfl) ?_
  refine wl_aload_n (pc := 805) d_law_805 2 rfl rfl ?_
  refine wl_callM (pc := 806) d_law_806 mv_L_123 (as := []) (c_M_restore hm) (by decide) rfl (fun _ _ => rfl) rfl (Nat.le_of_ble_eq_true rfl) ?_
  refine wl_eq (pc := 809) (tgt := 1092) d_law_809 rfl ?_
  exact hk _ _ hI2
set_option maxHeartbeats 4000000 in
theorem wl_case26 {I : Nat → fw_M → fw_M → Prop} (hO : fw_O_leaf I) {L n : Nat} {xs : Nat → Int32} {μx μm : fw_M} (hL : L ≤ 3072) (hb : 6 * n + 6 ≤ L) (hn : n < 512) (hI : I n μx μm) (hk : ∀ νx νm, I (n + 1) νx νm → fw_L L xs 1092 [(0, .ref 2), (1, .ref 0), (2, .ref 1), (3, .int (nI (6 * n)))] [] νx νm) : fw_L L xs 814 [(0, .ref 2), (1, .ref 0), (2, .ref 1), (3, .int (nI (6 * n)))] [] μx μm := by
  obtain ⟨r, νx, νm, hx, hm, hI2⟩ := hO n μx μm hn hI (xs ((nI (6 * n)) + 1).toNatClampNeg) (xs ((nI (6 * n)) + 2).toNatClampNeg) (xs ((nI (6 * n)) + 3).toNatClampNeg)
  refine wl_aload_n (pc := 814) d_law_814 1 rfl rfl ?_
  refine wl_aload_n (pc := 815) d_law_815 0 rfl rfl ?_
  refine wl_iload_n (pc := 816) d_law_816 3 rfl rfl ?_
  refine wl_iconst (pc := 817) d_law_817 (v := 1) (by decide) ?_
  refine wl_iadd (pc := 818) d_law_818 ?_
  refine wl_sld (pc := 819) d_law_819 (wl_in hL hb (j := 1) (by decide) (wl_n1 n)) ?_
  refine wl_aload_n (pc := 820) d_law_820 0 rfl rfl ?_
  refine wl_iload_n (pc := 821) d_law_821 3 rfl rfl ?_
  refine wl_iconst (pc := 822) d_law_822 (v := 2) (by decide) ?_
  refine wl_iadd (pc := 823) d_law_823 ?_
  refine wl_sld (pc := 824) d_law_824 (wl_in hL hb (j := 2) (by decide) (wl_n2 n)) ?_
  refine wl_aload_n (pc := 825) d_law_825 0 rfl rfl ?_
  refine wl_iload_n (pc := 826) d_law_826 3 rfl rfl ?_
  refine wl_iconst (pc := 827) d_law_827 (v := 3) (by decide) ?_
  refine wl_iadd (pc := 828) d_law_828 ?_
  refine wl_sld (pc := 829) d_law_829 (wl_in hL hb (j := 3) (by decide) (wl_n3 n)) ?_
  refine wl_callX (pc := 830) d_law_830 mv_L_124 (as := [.int (xs ((nI (6 * n)) + 1).toNatClampNeg), .int (xs ((nI (6 * n)) + 2).toNatClampNeg), .int (xs ((nI (6 * n)) + 3).toNatClampNeg)]) (c_X_leaf hx) (by decide) rfl (fun _ _ => rfl) rfl (Nat.le_of_ble_eq_true rfl) ?_
  refine wl_aload_n (pc := 833) d_law_833 2 rfl rfl ?_
  refine wl_aload_n (pc := 834) d_law_834 0 rfl rfl ?_
  refine wl_iload_n (pc := 835) d_law_835 3 rfl rfl ?_
  refine wl_iconst (pc := 836) d_law_836 (v := 1) (by decide) ?_
  refine wl_iadd (pc := 837) d_law_837 ?_
  refine wl_sld (pc := 838) d_law_838 (wl_in hL hb (j := 1) (by decide) (wl_n1 n)) ?_
  refine wl_aload_n (pc := 839) d_law_839 0 rfl rfl ?_
  refine wl_iload_n (pc := 840) d_law_840 3 rfl rfl ?_
  refine wl_iconst (pc := 841) d_law_841 (v := 2) (by decide) ?_
  refine wl_iadd (pc := 842) d_law_842 ?_
  refine wl_sld (pc := 843) d_law_843 (wl_in hL hb (j := 2) (by decide) (wl_n2 n)) ?_
  refine wl_aload_n (pc := 844) d_law_844 0 rfl rfl ?_
  refine wl_iload_n (pc := 845) d_law_845 3 rfl rfl ?_
  refine wl_iconst (pc := 846) d_law_846 (v := 3) (by decide) ?_
  refine wl_iadd (pc := 847) d_law_847 ?_
  refine wl_sld (pc := 848) d_law_848 (wl_in hL hb (j := 3) (by decide) (wl_n3 n)) ?_
  refine wl_callM (pc := 849) d_law_849 mv_L_127 (as := [.int (xs ((nI (6 * n)) + 1).toNatClampNeg), .int (xs ((nI (6 * n)) + 2).toNatClampNeg), .int (xs ((nI (6 * n)) + 3).toNatClampNeg)]) (c_M_leaf hm) (by decide) rfl (fun _ _ => rfl) rfl (Nat.le_of_ble_eq_true rfl) ?_
  refine wl_eq (pc := 852) (tgt := 1092) d_law_852 rfl ?_
  exact hk _ _ hI2
set_option maxHeartbeats 4000000 in
theorem wl_case27 {I : Nat → fw_M → fw_M → Prop} (hO : fw_O_alike I) {L n : Nat} {xs : Nat → Int32} {μx μm : fw_M} (hL : L ≤ 3072) (hb : 6 * n + 6 ≤ L) (hn : n < 512) (hI : I n μx μm) (hk : ∀ νx νm, I (n + 1) νx νm → fw_L L xs 1092 [(0, .ref 2), (1, .ref 0), (2, .ref 1), (3, .int (nI (6 * n)))] [] νx νm) : fw_L L xs 857 [(0, .ref 2), (1, .ref 0), (2, .ref 1), (3, .int (nI (6 * n)))] [] μx μm := by
  obtain ⟨r, hx, hm, hI2⟩ := hO n μx μm hn hI (xs ((nI (6 * n)) + 1).toNatClampNeg) (xs ((nI (6 * n)) + 2).toNatClampNeg) (xs ((nI (6 * n)) + 3).toNatClampNeg) (xs ((nI (6 * n)) + 4).toNatClampNeg)
  refine wl_aload_n (pc := 857) d_law_857 1 rfl rfl ?_
  refine wl_aload_n (pc := 858) d_law_858 0 rfl rfl ?_
  refine wl_iload_n (pc := 859) d_law_859 3 rfl rfl ?_
  refine wl_iconst (pc := 860) d_law_860 (v := 1) (by decide) ?_
  refine wl_iadd (pc := 861) d_law_861 ?_
  refine wl_sld (pc := 862) d_law_862 (wl_in hL hb (j := 1) (by decide) (wl_n1 n)) ?_
  refine wl_aload_n (pc := 863) d_law_863 0 rfl rfl ?_
  refine wl_iload_n (pc := 864) d_law_864 3 rfl rfl ?_
  refine wl_iconst (pc := 865) d_law_865 (v := 2) (by decide) ?_
  refine wl_iadd (pc := 866) d_law_866 ?_
  refine wl_sld (pc := 867) d_law_867 (wl_in hL hb (j := 2) (by decide) (wl_n2 n)) ?_
  refine wl_aload_n (pc := 868) d_law_868 0 rfl rfl ?_
  refine wl_iload_n (pc := 869) d_law_869 3 rfl rfl ?_
  refine wl_iconst (pc := 870) d_law_870 (v := 3) (by decide) ?_
  refine wl_iadd (pc := 871) d_law_871 ?_
  refine wl_sld (pc := 872) d_law_872 (wl_in hL hb (j := 3) (by decide) (wl_n3 n)) ?_
  refine wl_aload_n (pc := 873) d_law_873 0 rfl rfl ?_
  refine wl_iload_n (pc := 874) d_law_874 3 rfl rfl ?_
  refine wl_iconst (pc := 875) d_law_875 (v := 4) (by decide) ?_
  refine wl_iadd (pc := 876) d_law_876 ?_
  refine wl_sld (pc := 877) d_law_877 (wl_in hL hb (j := 4) (by decide) (wl_n4 n)) ?_
  refine wl_callX (pc := 878) d_law_878 mv_L_128 (as := [.int (xs ((nI (6 * n)) + 1).toNatClampNeg), .int (xs ((nI (6 * n)) + 2).toNatClampNeg), .int (xs ((nI (6 * n)) + 3).toNatClampNeg), .int (xs ((nI (6 * n)) + 4).toNatClampNeg)]) (c_X_alike hx) (by decide) rfl (fun _ _ => rfl) rfl (Nat.le_of_ble_eq_true rfl) ?_
  refine wl_aload_n (pc := 881) d_law_881 2 rfl rfl ?_
  refine wl_aload_n (pc := 882) d_law_882 0 rfl rfl ?_
  refine wl_iload_n (pc := 883) d_law_883 3 rfl rfl ?_
  refine wl_iconst (pc := 884) d_law_884 (v := 1) (by decide) ?_
  refine wl_iadd (pc := 885) d_law_885 ?_
  refine wl_sld (pc := 886) d_law_886 (wl_in hL hb (j := 1) (by decide) (wl_n1 n)) ?_
  refine wl_aload_n (pc := 887) d_law_887 0 rfl rfl ?_
  refine wl_iload_n (pc := 888) d_law_888 3 rfl rfl ?_
  refine wl_iconst (pc := 889) d_law_889 (v := 2) (by decide) ?_
  refine wl_iadd (pc := 890) d_law_890 ?_
  refine wl_sld (pc := 891) d_law_891 (wl_in hL hb (j := 2) (by decide) (wl_n2 n)) ?_
  refine wl_aload_n (pc := 892) d_law_892 0 rfl rfl ?_
  refine wl_iload_n (pc := 893) d_law_893 3 rfl rfl ?_
  refine wl_iconst (pc := 894) d_law_894 (v := 3) (by decide) ?_
  refine wl_iadd (pc := 895) d_law_895 ?_
  refine wl_sld (pc := 896) d_law_896 (wl_in hL hb (j := 3) (by decide) (wl_n3 n)) ?_
  refine wl_aload_n (pc := 897) d_law_897 0 rfl rfl ?_
  refine wl_iload_n (pc := 898) d_law_898 3 rfl rfl ?_
  refine wl_iconst (pc := 899) d_law_899 (v := 4) (by decide) ?_
  refine wl_iadd (pc := 900) d_law_900 ?_
  refine wl_sld (pc := 901) d_law_901 (wl_in hL hb (j := 4) (by decide) (wl_n4 n)) ?_
  refine wl_callM (pc := 902) d_law_902 mv_L_132 (as := [.int (xs ((nI (6 * n)) + 1).toNatClampNeg), .int (xs ((nI (6 * n)) + 2).toNatClampNeg), .int (xs ((nI (6 * n)) + 3).toNatClampNeg), .int (xs ((nI (6 * n)) + 4).toNatClampNeg)]) (c_M_alike hm) (by decide) rfl (fun _ _ => rfl) rfl (Nat.le_of_ble_eq_true rfl) ?_
  refine wl_eq (pc := 905) (tgt := 1092) d_law_905 rfl ?_
  exact hk _ _ hI2
set_option maxHeartbeats 4000000 in
theorem wl_case28 {I : Nat → fw_M → fw_M → Prop} (hO : fw_O_sheet I) {L n : Nat} {xs : Nat → Int32} {μx μm : fw_M} (hL : L ≤ 3072) (hb : 6 * n + 6 ≤ L) (hn : n < 512) (hI : I n μx μm) (hk : ∀ νx νm, I (n + 1) νx νm → fw_L L xs 1092 [(0, .ref 2), (1, .ref 0), (2, .ref 1), (3, .int (nI (6 * n)))] [] νx νm) : fw_L L xs 910 [(0, .ref 2), (1, .ref 0), (2, .ref 1), (3, .int (nI (6 * n)))] [] μx μm := by
  obtain ⟨r, νx, νm, hx, hm, hI2⟩ := hO n μx μm hn hI (xs ((nI (6 * n)) + 1).toNatClampNeg) (xs ((nI (6 * n)) + 2).toNatClampNeg) (xs ((nI (6 * n)) + 3).toNatClampNeg)
  refine wl_aload_n (pc := 910) d_law_910 1 rfl rfl ?_
  refine wl_aload_n (pc := 911) d_law_911 0 rfl rfl ?_
  refine wl_iload_n (pc := 912) d_law_912 3 rfl rfl ?_
  refine wl_iconst (pc := 913) d_law_913 (v := 1) (by decide) ?_
  refine wl_iadd (pc := 914) d_law_914 ?_
  refine wl_sld (pc := 915) d_law_915 (wl_in hL hb (j := 1) (by decide) (wl_n1 n)) ?_
  refine wl_aload_n (pc := 916) d_law_916 0 rfl rfl ?_
  refine wl_iload_n (pc := 917) d_law_917 3 rfl rfl ?_
  refine wl_iconst (pc := 918) d_law_918 (v := 2) (by decide) ?_
  refine wl_iadd (pc := 919) d_law_919 ?_
  refine wl_sld (pc := 920) d_law_920 (wl_in hL hb (j := 2) (by decide) (wl_n2 n)) ?_
  refine wl_aload_n (pc := 921) d_law_921 0 rfl rfl ?_
  refine wl_iload_n (pc := 922) d_law_922 3 rfl rfl ?_
  refine wl_iconst (pc := 923) d_law_923 (v := 3) (by decide) ?_
  refine wl_iadd (pc := 924) d_law_924 ?_
  refine wl_sld (pc := 925) d_law_925 (wl_in hL hb (j := 3) (by decide) (wl_n3 n)) ?_
  refine wl_callX (pc := 926) d_law_926 mv_L_133 (as := [.int (xs ((nI (6 * n)) + 1).toNatClampNeg), .int (xs ((nI (6 * n)) + 2).toNatClampNeg), .int (xs ((nI (6 * n)) + 3).toNatClampNeg)]) (c_X_sheet hx) (by decide) rfl (fun _ _ => rfl) rfl (Nat.le_of_ble_eq_true rfl) ?_
  refine wl_aload_n (pc := 929) d_law_929 2 rfl rfl ?_
  refine wl_aload_n (pc := 930) d_law_930 0 rfl rfl ?_
  refine wl_iload_n (pc := 931) d_law_931 3 rfl rfl ?_
  refine wl_iconst (pc := 932) d_law_932 (v := 1) (by decide) ?_
  refine wl_iadd (pc := 933) d_law_933 ?_
  refine wl_sld (pc := 934) d_law_934 (wl_in hL hb (j := 1) (by decide) (wl_n1 n)) ?_
  refine wl_aload_n (pc := 935) d_law_935 0 rfl rfl ?_
  refine wl_iload_n (pc := 936) d_law_936 3 rfl rfl ?_
  refine wl_iconst (pc := 937) d_law_937 (v := 2) (by decide) ?_
  refine wl_iadd (pc := 938) d_law_938 ?_
  refine wl_sld (pc := 939) d_law_939 (wl_in hL hb (j := 2) (by decide) (wl_n2 n)) ?_
  refine wl_aload_n (pc := 940) d_law_940 0 rfl rfl ?_
  refine wl_iload_n (pc := 941) d_law_941 3 rfl rfl ?_
  refine wl_iconst (pc := 942) d_law_942 (v := 3) (by decide) ?_
  refine wl_iadd (pc := 943) d_law_943 ?_
  refine wl_sld (pc := 944) d_law_944 (wl_in hL hb (j := 3) (by decide) (wl_n3 n)) ?_
  refine wl_callM (pc := 945) d_law_945 mv_L_136 (as := [.int (xs ((nI (6 * n)) + 1).toNatClampNeg), .int (xs ((nI (6 * n)) + 2).toNatClampNeg), .int (xs ((nI (6 * n)) + 3).toNatClampNeg)]) (c_M_sheet hm) (by decide) rfl (fun _ _ => rfl) rfl (Nat.le_of_ble_eq_true rfl) ?_
  refine wl_eq (pc := 948) (tgt := 1092) d_law_948 rfl ?_
  exact hk _ _ hI2
set_option maxHeartbeats 4000000 in
theorem wl_case29 {I : Nat → fw_M → fw_M → Prop} (hO : fw_O_drop I) {L n : Nat} {xs : Nat → Int32} {μx μm : fw_M} (hL : L ≤ 3072) (hb : 6 * n + 6 ≤ L) (hn : n < 512) (hI : I n μx μm) (hk : ∀ νx νm, I (n + 1) νx νm → fw_L L xs 1092 [(0, .ref 2), (1, .ref 0), (2, .ref 1), (3, .int (nI (6 * n)))] [] νx νm) : fw_L L xs 953 [(0, .ref 2), (1, .ref 0), (2, .ref 1), (3, .int (nI (6 * n)))] [] μx μm := by
  obtain ⟨r, νx, νm, hx, hm, hI2⟩ := hO n μx μm hn hI (xs ((nI (6 * n)) + 1).toNatClampNeg)
  refine wl_aload_n (pc := 953) d_law_953 1 rfl rfl ?_
  refine wl_aload_n (pc := 954) d_law_954 0 rfl rfl ?_
  refine wl_iload_n (pc := 955) d_law_955 3 rfl rfl ?_
  refine wl_iconst (pc := 956) d_law_956 (v := 1) (by decide) ?_
  refine wl_iadd (pc := 957) d_law_957 ?_
  refine wl_sld (pc := 958) d_law_958 (wl_in hL hb (j := 1) (by decide) (wl_n1 n)) ?_
  refine wl_callX (pc := 959) d_law_959 mv_L_137 (as := [.int (xs ((nI (6 * n)) + 1).toNatClampNeg)]) (c_X_drop hx) (by decide) rfl (fun _ _ => rfl) rfl (Nat.le_of_ble_eq_true rfl) ?_
  refine wl_aload_n (pc := 962) d_law_962 2 rfl rfl ?_
  refine wl_aload_n (pc := 963) d_law_963 0 rfl rfl ?_
  refine wl_iload_n (pc := 964) d_law_964 3 rfl rfl ?_
  refine wl_iconst (pc := 965) d_law_965 (v := 1) (by decide) ?_
  refine wl_iadd (pc := 966) d_law_966 ?_
  refine wl_sld (pc := 967) d_law_967 (wl_in hL hb (j := 1) (by decide) (wl_n1 n)) ?_
  refine wl_callM (pc := 968) d_law_968 mv_L_140 (as := [.int (xs ((nI (6 * n)) + 1).toNatClampNeg)]) (c_M_drop hm) (by decide) rfl (fun _ _ => rfl) rfl (Nat.le_of_ble_eq_true rfl) ?_
  refine wl_eq (pc := 971) (tgt := 1092) d_law_971 rfl ?_
  exact hk _ _ hI2
set_option maxHeartbeats 4000000 in
theorem wl_case30 {I : Nat → fw_M → fw_M → Prop} (hO : fw_O_item I) {L n : Nat} {xs : Nat → Int32} {μx μm : fw_M} (hL : L ≤ 3072) (hb : 6 * n + 6 ≤ L) (hn : n < 512) (hI : I n μx μm) (hk : ∀ νx νm, I (n + 1) νx νm → fw_L L xs 1092 [(0, .ref 2), (1, .ref 0), (2, .ref 1), (3, .int (nI (6 * n)))] [] νx νm) : fw_L L xs 976 [(0, .ref 2), (1, .ref 0), (2, .ref 1), (3, .int (nI (6 * n)))] [] μx μm := by
  obtain ⟨r, νx, νm, hx, hm, hI2⟩ := hO n μx μm hn hI (xs ((nI (6 * n)) + 1).toNatClampNeg) (xs ((nI (6 * n)) + 2).toNatClampNeg) (xs ((nI (6 * n)) + 3).toNatClampNeg) (xs ((nI (6 * n)) + 4).toNatClampNeg)
  refine wl_aload_n (pc := 976) d_law_976 1 rfl rfl ?_
  refine wl_aload_n (pc := 977) d_law_977 0 rfl rfl ?_
  refine wl_iload_n (pc := 978) d_law_978 3 rfl rfl ?_
  refine wl_iconst (pc := 979) d_law_979 (v := 1) (by decide) ?_
  refine wl_iadd (pc := 980) d_law_980 ?_
  refine wl_sld (pc := 981) d_law_981 (wl_in hL hb (j := 1) (by decide) (wl_n1 n)) ?_
  refine wl_aload_n (pc := 982) d_law_982 0 rfl rfl ?_
  refine wl_iload_n (pc := 983) d_law_983 3 rfl rfl ?_
  refine wl_iconst (pc := 984) d_law_984 (v := 2) (by decide) ?_
  refine wl_iadd (pc := 985) d_law_985 ?_
  refine wl_sld (pc := 986) d_law_986 (wl_in hL hb (j := 2) (by decide) (wl_n2 n)) ?_
  refine wl_aload_n (pc := 987) d_law_987 0 rfl rfl ?_
  refine wl_iload_n (pc := 988) d_law_988 3 rfl rfl ?_
  refine wl_iconst (pc := 989) d_law_989 (v := 3) (by decide) ?_
  refine wl_iadd (pc := 990) d_law_990 ?_
  refine wl_sld (pc := 991) d_law_991 (wl_in hL hb (j := 3) (by decide) (wl_n3 n)) ?_
  refine wl_aload_n (pc := 992) d_law_992 0 rfl rfl ?_
  refine wl_iload_n (pc := 993) d_law_993 3 rfl rfl ?_
  refine wl_iconst (pc := 994) d_law_994 (v := 4) (by decide) ?_
  refine wl_iadd (pc := 995) d_law_995 ?_
  refine wl_sld (pc := 996) d_law_996 (wl_in hL hb (j := 4) (by decide) (wl_n4 n)) ?_
  refine wl_callX (pc := 997) d_law_997 mv_L_141 (as := [.int (xs ((nI (6 * n)) + 1).toNatClampNeg), .int (xs ((nI (6 * n)) + 2).toNatClampNeg), .int (xs ((nI (6 * n)) + 3).toNatClampNeg), .int (xs ((nI (6 * n)) + 4).toNatClampNeg)]) (c_X_item hx) (by decide) rfl (fun _ _ => rfl) rfl (Nat.le_of_ble_eq_true rfl) ?_
  refine wl_aload_n (pc := 1000) d_law_1000 2 rfl rfl ?_
  refine wl_aload_n (pc := 1001) d_law_1001 0 rfl rfl ?_
  refine wl_iload_n (pc := 1002) d_law_1002 3 rfl rfl ?_
  refine wl_iconst (pc := 1003) d_law_1003 (v := 1) (by decide) ?_
  refine wl_iadd (pc := 1004) d_law_1004 ?_
  refine wl_sld (pc := 1005) d_law_1005 (wl_in hL hb (j := 1) (by decide) (wl_n1 n)) ?_
  refine wl_aload_n (pc := 1006) d_law_1006 0 rfl rfl ?_
  refine wl_iload_n (pc := 1007) d_law_1007 3 rfl rfl ?_
  refine wl_iconst (pc := 1008) d_law_1008 (v := 2) (by decide) ?_
  refine wl_iadd (pc := 1009) d_law_1009 ?_
  refine wl_sld (pc := 1010) d_law_1010 (wl_in hL hb (j := 2) (by decide) (wl_n2 n)) ?_
  refine wl_aload_n (pc := 1011) d_law_1011 0 rfl rfl ?_
  refine wl_iload_n (pc := 1012) d_law_1012 3 rfl rfl ?_
  refine wl_iconst (pc := 1013) d_law_1013 (v := 3) (by decide) ?_
  refine wl_iadd (pc := 1014) d_law_1014 ?_
  refine wl_sld (pc := 1015) d_law_1015 (wl_in hL hb (j := 3) (by decide) (wl_n3 n)) ?_
  refine wl_aload_n (pc := 1016) d_law_1016 0 rfl rfl ?_
  refine wl_iload_n (pc := 1017) d_law_1017 3 rfl rfl ?_
  refine wl_iconst (pc := 1018) d_law_1018 (v := 4) (by decide) ?_
  refine wl_iadd (pc := 1019) d_law_1019 ?_
  refine wl_sld (pc := 1020) d_law_1020 (wl_in hL hb (j := 4) (by decide) (wl_n4 n)) ?_
  refine wl_callM (pc := 1021) d_law_1021 mv_L_144 (as := [.int (xs ((nI (6 * n)) + 1).toNatClampNeg), .int (xs ((nI (6 * n)) + 2).toNatClampNeg), .int (xs ((nI (6 * n)) + 3).toNatClampNeg), .int (xs ((nI (6 * n)) + 4).toNatClampNeg)]) (c_M_item hm) (by decide) rfl (fun _ _ => rfl) rfl (Nat.le_of_ble_eq_true rfl) ?_
  refine wl_eq (pc := 1024) (tgt := 1092) d_law_1024 rfl ?_
  exact hk _ _ hI2
set_option maxHeartbeats 4000000 in
theorem wl_case31 {I : Nat → fw_M → fw_M → Prop} (hO : fw_O_copy I) {L n : Nat} {xs : Nat → Int32} {μx μm : fw_M} (hL : L ≤ 3072) (hb : 6 * n + 6 ≤ L) (hn : n < 512) (hI : I n μx μm) (hk : ∀ νx νm, I (n + 1) νx νm → fw_L L xs 1092 [(0, .ref 2), (1, .ref 0), (2, .ref 1), (3, .int (nI (6 * n)))] [] νx νm) : fw_L L xs 1029 [(0, .ref 2), (1, .ref 0), (2, .ref 1), (3, .int (nI (6 * n)))] [] μx μm := by
  obtain ⟨r, νx, νm, hx, hm, hI2⟩ := hO n μx μm hn hI (xs ((nI (6 * n)) + 1).toNatClampNeg) (xs ((nI (6 * n)) + 2).toNatClampNeg) (xs ((nI (6 * n)) + 3).toNatClampNeg) (xs ((nI (6 * n)) + 4).toNatClampNeg) (xs ((nI (6 * n)) + 5).toNatClampNeg)
  refine wl_aload_n (pc := 1029) d_law_1029 1 rfl rfl ?_
  refine wl_aload_n (pc := 1030) d_law_1030 0 rfl rfl ?_
  refine wl_iload_n (pc := 1031) d_law_1031 3 rfl rfl ?_
  refine wl_iconst (pc := 1032) d_law_1032 (v := 1) (by decide) ?_
  refine wl_iadd (pc := 1033) d_law_1033 ?_
  refine wl_sld (pc := 1034) d_law_1034 (wl_in hL hb (j := 1) (by decide) (wl_n1 n)) ?_
  refine wl_aload_n (pc := 1035) d_law_1035 0 rfl rfl ?_
  refine wl_iload_n (pc := 1036) d_law_1036 3 rfl rfl ?_
  refine wl_iconst (pc := 1037) d_law_1037 (v := 2) (by decide) ?_
  refine wl_iadd (pc := 1038) d_law_1038 ?_
  refine wl_sld (pc := 1039) d_law_1039 (wl_in hL hb (j := 2) (by decide) (wl_n2 n)) ?_
  refine wl_aload_n (pc := 1040) d_law_1040 0 rfl rfl ?_
  refine wl_iload_n (pc := 1041) d_law_1041 3 rfl rfl ?_
  refine wl_iconst (pc := 1042) d_law_1042 (v := 3) (by decide) ?_
  refine wl_iadd (pc := 1043) d_law_1043 ?_
  refine wl_sld (pc := 1044) d_law_1044 (wl_in hL hb (j := 3) (by decide) (wl_n3 n)) ?_
  refine wl_aload_n (pc := 1045) d_law_1045 0 rfl rfl ?_
  refine wl_iload_n (pc := 1046) d_law_1046 3 rfl rfl ?_
  refine wl_iconst (pc := 1047) d_law_1047 (v := 4) (by decide) ?_
  refine wl_iadd (pc := 1048) d_law_1048 ?_
  refine wl_sld (pc := 1049) d_law_1049 (wl_in hL hb (j := 4) (by decide) (wl_n4 n)) ?_
  refine wl_aload_n (pc := 1050) d_law_1050 0 rfl rfl ?_
  refine wl_iload_n (pc := 1051) d_law_1051 3 rfl rfl ?_
  refine wl_iconst (pc := 1052) d_law_1052 (v := 5) (by decide) ?_
  refine wl_iadd (pc := 1053) d_law_1053 ?_
  refine wl_sld (pc := 1054) d_law_1054 (wl_in hL hb (j := 5) (by decide) (wl_n5 n)) ?_
  refine wl_callX (pc := 1055) d_law_1055 mv_L_145 (as := [.int (xs ((nI (6 * n)) + 1).toNatClampNeg), .int (xs ((nI (6 * n)) + 2).toNatClampNeg), .int (xs ((nI (6 * n)) + 3).toNatClampNeg), .int (xs ((nI (6 * n)) + 4).toNatClampNeg), .int (xs ((nI (6 * n)) + 5).toNatClampNeg)]) (c_X_copy hx) (by decide) rfl (fun _ _ => rfl) rfl (Nat.le_of_ble_eq_true rfl) ?_
  refine wl_aload_n (pc := 1058) d_law_1058 2 rfl rfl ?_
  refine wl_aload_n (pc := 1059) d_law_1059 0 rfl rfl ?_
  refine wl_iload_n (pc := 1060) d_law_1060 3 rfl rfl ?_
  refine wl_iconst (pc := 1061) d_law_1061 (v := 1) (by decide) ?_
  refine wl_iadd (pc := 1062) d_law_1062 ?_
  refine wl_sld (pc := 1063) d_law_1063 (wl_in hL hb (j := 1) (by decide) (wl_n1 n)) ?_
  refine wl_aload_n (pc := 1064) d_law_1064 0 rfl rfl ?_
  refine wl_iload_n (pc := 1065) d_law_1065 3 rfl rfl ?_
  refine wl_iconst (pc := 1066) d_law_1066 (v := 2) (by decide) ?_
  refine wl_iadd (pc := 1067) d_law_1067 ?_
  refine wl_sld (pc := 1068) d_law_1068 (wl_in hL hb (j := 2) (by decide) (wl_n2 n)) ?_
  refine wl_aload_n (pc := 1069) d_law_1069 0 rfl rfl ?_
  refine wl_iload_n (pc := 1070) d_law_1070 3 rfl rfl ?_
  refine wl_iconst (pc := 1071) d_law_1071 (v := 3) (by decide) ?_
  refine wl_iadd (pc := 1072) d_law_1072 ?_
  refine wl_sld (pc := 1073) d_law_1073 (wl_in hL hb (j := 3) (by decide) (wl_n3 n)) ?_
  refine wl_aload_n (pc := 1074) d_law_1074 0 rfl rfl ?_
  refine wl_iload_n (pc := 1075) d_law_1075 3 rfl rfl ?_
  refine wl_iconst (pc := 1076) d_law_1076 (v := 4) (by decide) ?_
  refine wl_iadd (pc := 1077) d_law_1077 ?_
  refine wl_sld (pc := 1078) d_law_1078 (wl_in hL hb (j := 4) (by decide) (wl_n4 n)) ?_
  refine wl_aload_n (pc := 1079) d_law_1079 0 rfl rfl ?_
  refine wl_iload_n (pc := 1080) d_law_1080 3 rfl rfl ?_
  refine wl_iconst (pc := 1081) d_law_1081 (v := 5) (by decide) ?_
  refine wl_iadd (pc := 1082) d_law_1082 ?_
  refine wl_sld (pc := 1083) d_law_1083 (wl_in hL hb (j := 5) (by decide) (wl_n5 n)) ?_
  refine wl_callM (pc := 1084) d_law_1084 mv_L_149 (as := [.int (xs ((nI (6 * n)) + 1).toNatClampNeg), .int (xs ((nI (6 * n)) + 2).toNatClampNeg), .int (xs ((nI (6 * n)) + 3).toNatClampNeg), .int (xs ((nI (6 * n)) + 4).toNatClampNeg), .int (xs ((nI (6 * n)) + 5).toNatClampNeg)]) (c_M_copy hm) (by decide) rfl (fun _ _ => rfl) rfl (Nat.le_of_ble_eq_true rfl) ?_
  refine wl_eq (pc := 1087) (tgt := 1092) d_law_1087 rfl ?_
  exact hk _ _ hI2

theorem wl_loop {I : Nat → fw_M → fw_M → Prop} (hO : fw_OK I) {L : Nat} {xs : Nat → Int32} (hL : L ≤ 3072) : ∀ (k n : Nat) (μx μm : fw_M), L ≤ 6 * n + 6 * k → 6 * n ≤ L → I n μx μm → fw_L L xs 18 [(0, .ref 2), (1, .ref 0), (2, .ref 1), (3, .int (nI (6 * n)))] [] μx μm := by
  intro k
  induction k with
  | zero =>
    intro n μx μm hk hle hI
    have hex : (nI L - 6 : Int32) < nI (6 * n) := by
      have e1 : (nI L - nI 6).toInt = (L : Int) - 6 := pk_sub_toInt (by omega) (by omega)
      have e2 : (nI (6 * n)).toInt = ((6 * n : Nat) : Int) := nI_toInt (by omega)
      rw [Int32.lt_iff_toInt_lt]
      have e3 : (nI L - 6 : Int32).toInt = (L : Int) - 6 := e1
      rw [e3, e2]
      omega
    refine wl_iload_n (pc := 18) d_law_18 3 rfl rfl ?_
    refine wl_aload_n (pc := 19) d_law_19 0 rfl rfl ?_
    refine wl_slen (pc := 20) d_law_20 ?_
    refine wl_bipush (pc := 21) d_law_21 (v := 6) (by decide) ?_
    refine wl_isub (pc := 23) d_law_23 ?_
    refine wl_gt (pc := 24) (tgt := 1098) d_law_24 rfl (fun _ => ?_) (fun h => absurd hex h)
    refine wl_iconst (pc := 1098) d_law_1098 fw_ic1 ?_
    exact wl_ret (pc := 1099) d_law_1099
  | succ k ih =>
    intro n μx μm hk hle hI
    refine wl_iload_n (pc := 18) d_law_18 3 rfl rfl ?_
    refine wl_aload_n (pc := 19) d_law_19 0 rfl rfl ?_
    refine wl_slen (pc := 20) d_law_20 ?_
    refine wl_bipush (pc := 21) d_law_21 (v := 6) (by decide) ?_
    refine wl_isub (pc := 23) d_law_23 ?_
    refine wl_gt (pc := 24) (tgt := 1098) d_law_24 rfl (fun _ => ?_) (fun h => ?_)
    · refine wl_iconst (pc := 1098) d_law_1098 fw_ic1 ?_
      exact wl_ret (pc := 1099) d_law_1099
    · have hb : 6 * n + 6 ≤ L := by
        have e1 : (nI L - nI 6).toInt = (L : Int) - 6 := pk_sub_toInt (by omega) (by omega)
        have e2 : (nI (6 * n)).toInt = ((6 * n : Nat) : Int) := nI_toInt (by omega)
        rw [Int32.lt_iff_toInt_lt] at h
        have e3 : (nI L - 6 : Int32).toInt = (L : Int) - 6 := e1
        rw [e3, e2] at h
        omega
      have hn : n < 512 := by omega
      refine wl_aload_n (pc := 27) d_law_27 0 rfl rfl ?_
      refine wl_iload_n (pc := 28) d_law_28 3 rfl rfl ?_
      refine wl_sld (pc := 29) d_law_29 (wl_in hL hb (j := 0) (by decide) (wl_n0 n)) ?_
      refine wl_bipush (pc := 30) d_law_30 (v := 31) (by decide) ?_
      refine wl_iand (pc := 32) d_law_32 ?_
      have hk : ∀ νx νm, I (n + 1) νx νm → fw_L L xs 1092 [(0, .ref 2), (1, .ref 0), (2, .ref 1), (3, .int (nI (6 * n)))] [] νx νm := by
        intro νx νm h2
        refine wl_iinc (pc := 1092) (j := 3) (v := nI (6 * (n + 1))) (lv1 := [(3, .int (nI (6 * (n + 1)))), (0, .ref 2), (1, .ref 0), (2, .ref 1)]) d_law_1092 rfl ?_ (by decide) rfl ?_
        · rw [show Int32.ofInt 6 = nI 6 from rfl, nI_add]; rfl
        refine wl_goto (pc := 1095) (tgt := 18) d_law_1095 rfl ?_
        exact wl_sub [1, 2, 3, 0] rfl (ih (n + 1) νx νm (by omega) (by omega) h2)
      obtain ⟨j, hj, ej⟩ := pk_andE (xs (nI (6 * n)).toNatClampNeg) (m := 31) 5 (by decide)
      refine wl_top ej.symm ?_

      by_cases h0 : j = 0
      · subst h0
        exact wl_tin (pc := 33) (off := 143) (tgt := 176) d_law_33 (by decide) (by decide) (by decide) rfl (wl_case0 hO.1 hL hb hn hI hk)
      by_cases h1 : j = 1
      · subst h1
        exact wl_tin (pc := 33) (off := 186) (tgt := 219) d_law_33 (by decide) (by decide) (by decide) rfl (wl_case1 hO.2.1 hL hb hn hI hk)
      by_cases h2 : j = 2
      · subst h2
        exact wl_tin (pc := 33) (off := 219) (tgt := 252) d_law_33 (by decide) (by decide) (by decide) rfl (wl_case2 hO.2.2.1 hL hb hn hI hk)
      by_cases h3 : j = 3
      · subst h3
        exact wl_tin (pc := 33) (off := 242) (tgt := 275) d_law_33 (by decide) (by decide) (by decide) rfl (wl_case3 hO.2.2.2.1 hL hb hn hI hk)
      by_cases h4 : j = 4
      · subst h4
        exact wl_tin (pc := 33) (off := 275) (tgt := 308) d_law_33 (by decide) (by decide) (by decide) rfl (wl_case4 hO.2.2.2.2.1 hL hb hn hI hk)
      by_cases h5 : j = 5
      · subst h5
        exact wl_tin (pc := 33) (off := 308) (tgt := 341) d_law_33 (by decide) (by decide) (by decide) rfl (wl_case5 hO.2.2.2.2.2.1 hL hb hn hI hk)
      by_cases h6 : j = 6
      · subst h6
        exact wl_tin (pc := 33) (off := 371) (tgt := 404) d_law_33 (by decide) (by decide) (by decide) rfl (wl_case6 hO.2.2.2.2.2.2.1 hL hb hn hI hk)
      by_cases h7 : j = 7
      · subst h7
        exact wl_tin (pc := 33) (off := 384) (tgt := 417) d_law_33 (by decide) (by decide) (by decide) rfl (wl_case7 hO.2.2.2.2.2.2.2.1 hL hb hn hI hk)
      by_cases h8 : j = 8
      · subst h8
        exact wl_tin (pc := 33) (off := 397) (tgt := 430) d_law_33 (by decide) (by decide) (by decide) rfl (wl_case8 hO.2.2.2.2.2.2.2.2.1 hL hb hn hI hk)
      by_cases h9 : j = 9
      · subst h9
        exact wl_tin (pc := 33) (off := 430) (tgt := 463) d_law_33 (by decide) (by decide) (by decide) rfl (wl_case9 hO.2.2.2.2.2.2.2.2.2.1 hL hb hn hI hk)
      by_cases h10 : j = 10
      · subst h10
        exact wl_tin (pc := 33) (off := 453) (tgt := 486) d_law_33 (by decide) (by decide) (by decide) rfl (wl_case10 hO.2.2.2.2.2.2.2.2.2.2.1 hL hb hn hI hk)
      by_cases h11 : j = 11
      · subst h11
        exact wl_tin (pc := 33) (off := 476) (tgt := 509) d_law_33 (by decide) (by decide) (by decide) rfl (wl_case11 hO.2.2.2.2.2.2.2.2.2.2.2.1 hL hb hn hI hk)
      by_cases h12 : j = 12
      · subst h12
        exact wl_tin (pc := 33) (off := 509) (tgt := 542) d_law_33 (by decide) (by decide) (by decide) rfl (wl_case12 hO.2.2.2.2.2.2.2.2.2.2.2.2.1 hL hb hn hI hk)
      by_cases h13 : j = 13
      · subst h13
        exact wl_tin (pc := 33) (off := 522) (tgt := 555) d_law_33 (by decide) (by decide) (by decide) rfl (wl_case13 hO.2.2.2.2.2.2.2.2.2.2.2.2.2.1 hL hb hn hI hk)
      by_cases h14 : j = 14
      · subst h14
        exact wl_tin (pc := 33) (off := 545) (tgt := 578) d_law_33 (by decide) (by decide) (by decide) rfl (wl_case14 hO.2.2.2.2.2.2.2.2.2.2.2.2.2.2.1 hL hb hn hI hk)
      by_cases h15 : j = 15
      · subst h15
        exact wl_tin (pc := 33) (off := 558) (tgt := 591) d_law_33 (by decide) (by decide) (by decide) rfl (wl_case15 hO.2.2.2.2.2.2.2.2.2.2.2.2.2.2.2.1 hL hb hn hI hk)
      by_cases h16 : j = 16
      · subst h16
        exact wl_tin (pc := 33) (off := 581) (tgt := 614) d_law_33 (by decide) (by decide) (by decide) rfl (wl_case16 hO.2.2.2.2.2.2.2.2.2.2.2.2.2.2.2.2.1 hL hb hn hI hk)
      by_cases h17 : j = 17
      · subst h17
        exact wl_tin (pc := 33) (off := 604) (tgt := 637) d_law_33 (by decide) (by decide) (by decide) rfl (wl_case17 hO.2.2.2.2.2.2.2.2.2.2.2.2.2.2.2.2.2.1 hL hb hn hI hk)
      by_cases h18 : j = 18
      · subst h18
        exact wl_tin (pc := 33) (off := 627) (tgt := 660) d_law_33 (by decide) (by decide) (by decide) rfl (wl_case18 hO.2.2.2.2.2.2.2.2.2.2.2.2.2.2.2.2.2.2.1 hL hb hn hI hk)
      by_cases h19 : j = 19
      · subst h19
        exact wl_tin (pc := 33) (off := 650) (tgt := 683) d_law_33 (by decide) (by decide) (by decide) rfl (wl_case19 hO.2.2.2.2.2.2.2.2.2.2.2.2.2.2.2.2.2.2.2.1 hL hb hn hI hk)
      by_cases h20 : j = 20
      · subst h20
        exact wl_tin (pc := 33) (off := 673) (tgt := 706) d_law_33 (by decide) (by decide) (by decide) rfl (wl_case20 hO.2.2.2.2.2.2.2.2.2.2.2.2.2.2.2.2.2.2.2.2.1 hL hb hn hI hk)
      by_cases h21 : j = 21
      · subst h21
        exact wl_tin (pc := 33) (off := 696) (tgt := 729) d_law_33 (by decide) (by decide) (by decide) rfl (wl_case21 hO.2.2.2.2.2.2.2.2.2.2.2.2.2.2.2.2.2.2.2.2.2.1 hL hb hn hI hk)
      by_cases h22 : j = 22
      · subst h22
        exact wl_tin (pc := 33) (off := 729) (tgt := 762) d_law_33 (by decide) (by decide) (by decide) rfl (wl_case22 hO.2.2.2.2.2.2.2.2.2.2.2.2.2.2.2.2.2.2.2.2.2.2.1 hL hb hn hI hk)
      by_cases h23 : j = 23
      · subst h23
        exact wl_tin (pc := 33) (off := 742) (tgt := 775) d_law_33 (by decide) (by decide) (by decide) rfl (wl_case23 hO.2.2.2.2.2.2.2.2.2.2.2.2.2.2.2.2.2.2.2.2.2.2.2.1 hL hb hn hI hk)
      by_cases h24 : j = 24
      · subst h24
        exact wl_tin (pc := 33) (off := 755) (tgt := 788) d_law_33 (by decide) (by decide) (by decide) rfl (wl_case24 hO.2.2.2.2.2.2.2.2.2.2.2.2.2.2.2.2.2.2.2.2.2.2.2.2.1 hL hb hn hI hk)
      by_cases h25 : j = 25
      · subst h25
        exact wl_tin (pc := 33) (off := 768) (tgt := 801) d_law_33 (by decide) (by decide) (by decide) rfl (wl_case25 hO.2.2.2.2.2.2.2.2.2.2.2.2.2.2.2.2.2.2.2.2.2.2.2.2.2.1 hL hb hn hI hk)
      by_cases h26 : j = 26
      · subst h26
        exact wl_tin (pc := 33) (off := 781) (tgt := 814) d_law_33 (by decide) (by decide) (by decide) rfl (wl_case26 hO.2.2.2.2.2.2.2.2.2.2.2.2.2.2.2.2.2.2.2.2.2.2.2.2.2.2.1 hL hb hn hI hk)
      by_cases h27 : j = 27
      · subst h27
        exact wl_tin (pc := 33) (off := 824) (tgt := 857) d_law_33 (by decide) (by decide) (by decide) rfl (wl_case27 hO.2.2.2.2.2.2.2.2.2.2.2.2.2.2.2.2.2.2.2.2.2.2.2.2.2.2.2.1 hL hb hn hI hk)
      by_cases h28 : j = 28
      · subst h28
        exact wl_tin (pc := 33) (off := 877) (tgt := 910) d_law_33 (by decide) (by decide) (by decide) rfl (wl_case28 hO.2.2.2.2.2.2.2.2.2.2.2.2.2.2.2.2.2.2.2.2.2.2.2.2.2.2.2.2.1 hL hb hn hI hk)
      by_cases h29 : j = 29
      · subst h29
        exact wl_tin (pc := 33) (off := 920) (tgt := 953) d_law_33 (by decide) (by decide) (by decide) rfl (wl_case29 hO.2.2.2.2.2.2.2.2.2.2.2.2.2.2.2.2.2.2.2.2.2.2.2.2.2.2.2.2.2.1 hL hb hn hI hk)
      by_cases h30 : j = 30
      · subst h30
        exact wl_tin (pc := 33) (off := 943) (tgt := 976) d_law_33 (by decide) (by decide) (by decide) rfl (wl_case30 hO.2.2.2.2.2.2.2.2.2.2.2.2.2.2.2.2.2.2.2.2.2.2.2.2.2.2.2.2.2.2.1 hL hb hn hI hk)
      by_cases h31 : j = 31
      · subst h31
        exact wl_tin (pc := 33) (off := 996) (tgt := 1029) d_law_33 (by decide) (by decide) (by decide) rfl (wl_case31 hO.2.2.2.2.2.2.2.2.2.2.2.2.2.2.2.2.2.2.2.2.2.2.2.2.2.2.2.2.2.2.2 hL hb hn hI hk)
      omega
