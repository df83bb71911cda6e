/-! order: the reference -/
def yO (μ : fw_M) (L : fm_Li) (wd : Nat → Nat) (cr : Nat) : Prop := (rL (μ.1 0 6) (μ.1 6) L ∧ μ.1 0 8 = nI L.2) ∧ (∀ i, i < 12 → μ.1 4 i = nI (wd i)) ∧ μ.1 5 1 = nI cr
theorem yO.F {l : List Nat} {μ ν : fw_M} {L : fm_Li} {wd : Nat → Nat} {cr : Nat} (h : yO μ L wd cr) (F : fm_F l μ ν) (d : fm_no l [0, 4, 5, 6] := by decide) : yO ν L wd cr := by
  unfold yO at *
  rw [F 0 (fm_no_at d (by decide)), F 4 (fm_no_at d (by decide)), F 5 (fm_no_at d (by decide)), F 6 (fm_no_at d (by decide))]
  exact h
theorem fy_clash {μ : fw_M} {can : Nat → Prop} {P : List Nat} {L : fm_Li} {wd : Nat → Nat} {cr : Nat} {σ ps : Nat → Nat} (pl : fp_plan can P (fp_all L)) (h : yO μ L wd cr) (wl : wL L) (ww : wW wd) (c3 : cr ≤ 3) (n6 : P.length ≤ 6) (h17 : ∀ i, i < P.length → μ.1 17 i = nI (P.getD i 0)) (h18 : ∀ j, j < P.length → μ.1 18 j = nI (σ j) ∧ σ j < P.length) (h1 : ∀ p, p < L.1.length → ps p < P.length) (h2 : ∀ p, p < L.1.length → ∀ j, j < P.length → (σ j = po P p ↔ j = ps p)) : fm_T (f_M_clashes (nI P.length) μ) (fun p => p.1 = nI (omc (fm_lf L wd) (fun p => wd (fm_ll L p)) ps cr L.1.length) ∧ fm_F [20] μ p.2) := by
  have l10 := wl.1
  unfold f_M_clashes
  rw [fm_bind]
  have A : fm_T (fw_wh (f_M_clashes_L2 (nI P.length)) fw_N (0, μ)) (fun ν => fm_F [20] μ ν ∧ ∀ p, p < L.1.length → ν.1 20 p = nI (oco (fm_lf L wd) ps cr p)) := by
    refine fm_up (P := fun j s => s.1 = nI j ∧ fm_F [20] μ s.2 ∧ ∀ p, p < L.1.length → ps p < j → s.2.1 20 p = nI (oco (fm_lf L wd) ps cr p)) P.length ?_ ?_ 0 (Nat.zero_le _) ⟨rfl, fm_F.rf, fun p _ hp => absurd hp (Nat.not_lt_zero _)⟩ (by omega)
    · rintro j ⟨x, ν⟩ hj ⟨e1, F, a1⟩
      simp only at e1 F a1
      subst e1
      unfold f_M_clashes_L2
      try dsimp only
      rw [if_neg (nI_ge hj (by omega)), fm_bind]
      refine fm_up (P := fun p s => s.1 = nI p ∧ fm_F [20] μ s.2 ∧ ∀ q, q < L.1.length → (ps q < j ∨ (ps q = j ∧ q < p)) → s.2.1 20 q = nI (oco (fm_lf L wd) ps cr q)) L.1.length ?_ ?_ 0 (Nat.zero_le _) ⟨rfl, F, fun q hq z => a1 q hq (by omega)⟩ (by omega)
      · rintro p ⟨x, ξ⟩ hp ⟨e1, G, a2⟩
        simp only at e1 G a2
        subst e1
        unfold f_M_clashes_L9
        try dsimp only
        obtain ⟨s1, s2⟩ := h18 j hj
        have hb := fp_Pb pl l10 s2
        have bit : (P.getD (σ j) 0).testBit p = true ↔ j = ps p := by
          rw [(po_all pl hp).2 _ s2]
          exact h2 p hp j hj
        rw [G.at 0, h.1.1.1, if_neg (nI_ge hp (by omega)), fm_rd (by omega) (by omega), fm_bs, G.at 18, s1, fm_rd (by omega) (by omega), fm_bs, G.at 17, h17 _ s2, fm_bit1' (by omega) (by omega)]
        by_cases b : (P.getD (σ j) 0).testBit p = true
        · have yo := h.F G
          rw [if_pos b, fy_left yo.1 wl yo.2.1 (by omega), fm_bs, show fw_rd 3 (ξ.1 5) 1 = some (ξ.1 5 1) from fm_rd (j := 1) (by omega) (by omega), fm_bs, yo.2.2, pk_mul, nI_add, fm_bs, fm_si (by omega) (by omega), fm_bs, fm_nm, fm_some, fm_Kl]
          refine ⟨nI_1 p, G.wr, fun q hq z => ?_⟩
          by_cases e : q = p
          · rw [fm_wr, if_pos ⟨rfl, e⟩, e, bit.mp b]
          · rw [fm_wr, if_neg (fun y => e y.2)]
            exact a2 q hq (by omega)
        · rw [if_neg b, fm_rd (by omega) (by omega), fm_bs, fm_bs, fm_si (by omega) (by omega), fm_bs, fm_nm, fm_some, fm_Kl]
          refine ⟨nI_1 p, G.wr, fun q hq z => ?_⟩
          have ne : ¬ j = ps p := fun y => b (bit.mpr y)
          by_cases e : q = p
          · rw [fm_wr, if_pos ⟨rfl, e⟩, ← e]
            exact a2 q hq (by rw [e] at z ⊢; omega)
          · rw [fm_wr, if_neg (fun y => e y.2)]
            exact a2 q hq (by omega)
      · rintro ⟨x, ξ⟩ ⟨e1, G, a2⟩
        simp only at e1 G a2
        subst e1
        unfold f_M_clashes_L9
        try dsimp only
        rw [G.at 0, h.1.1.1, if_pos (nI_le (Nat.le_refl _) (by omega)), fm_some, fm_Kr, fm_nm, fm_some, fm_Kl]
        exact ⟨nI_1 j, G, fun q hq z => a2 q hq (by omega)⟩
    · rintro ⟨x, ν⟩ ⟨e1, F, a1⟩
      simp only at e1 F a1
      subst e1
      unfold f_M_clashes_L2
      try dsimp only
      rw [if_pos (nI_le (Nat.le_refl _) (by omega)), fm_some, fm_Kr]
      exact ⟨F, fun p hp => a1 p hp (h1 p hp)⟩
  refine A.mono ?_
  intro ν ⟨F, c20⟩
  rw [fm_bind]
  have n6' : ν.1 0 6 = nI L.1.length := by rw [F.at 0]; exact h.1.1.1
  have yo := h.F F
  have r6 : ∀ p, p < L.1.length → ν.1 6 p = nI (fm_ll L p) := fun p hp => yo.1.1.2 p hp
  have cb : ∀ p, p < L.1.length → oco (fm_lf L wd) ps cr p ≤ 78 := fun p hp => by
    have b1 := fm_lf_le wl ww p (by omega)
    have b2 : ps p * cr ≤ 6 * 3 := Nat.mul_le_mul (by have := h1 p hp; omega) c3
    unfold oco
    omega
  have wb : ∀ p, p < L.1.length → wd (fm_ll L p) ≤ 4 := fun p hp => (ww _ (wl.2.1 p hp)).2
  generalize hlf : fm_lf L wd = lf at c20 cb ⊢
  refine fm_up (P := fun p s => s.2 = nI p ∧ s.1 = nI (fm_su (fun p => fm_su (fun q => ocl lf (fun p => wd (fm_ll L p)) ps cr p q) L.1.length) p)) L.1.length ?_ ?_ 0 (Nat.zero_le _) ⟨rfl, rfl⟩ (by omega)
  · rintro p ⟨x, y⟩ hp ⟨e1, e2⟩
    simp only at e1 e2
    subst e1 e2
    unfold f_M_clashes_L81
    try dsimp only
    rw [n6', if_neg (nI_ge hp (by omega)), fm_nm, nI_1, fm_bind]
    refine fm_up (P := fun q s => p < q ∧ s.2 = nI q ∧ s.1 = nI (fm_su (fun p => fm_su (fun q => ocl lf (fun p => wd (fm_ll L p)) ps cr p q) L.1.length) p + fm_su (fun q => ocl lf (fun p => wd (fm_ll L p)) ps cr p q) q)) L.1.length ?_ ?_ (p + 1) (by omega) ⟨by omega, rfl, ?_⟩ (by omega)
    · rintro q ⟨x, y⟩ hq ⟨hpq, e1, e2⟩
      simp only at e1 e2
      subst e1 e2
      unfold f_M_clashes_L94
      try dsimp only
      have lp := wl.2.1 p hp
      have lq := wl.2.1 q hq
      have cp := cb p hp
      have cq := cb q hq
      have wp := wb p hp
      have wq := wb q hq
      rw [n6', if_neg (nI_ge hq (by omega)), fm_rd (by omega) (by omega), fm_bs, fm_rd (by omega) (by omega), fm_bs, fm_rd (by omega) (by omega), fm_bs, r6 q hq, fm_rd lq (by omega), fm_bs, yo.2.1 _ lq, c20 p hp, c20 q hq, nI_add]
      have fin : ∀ v : Nat, v = ocl lf (fun p => wd (fm_ll L p)) ps cr p q → fm_T (fw_nm (nI (fm_su (fun p => fm_su (fun q => ocl lf (fun p => wd (fm_ll L p)) ps cr p q) L.1.length) p + fm_su (fun q => ocl lf (fun p => wd (fm_ll L p)) ps cr p q) q) + nI v) fun (v167 : Int32) => fw_nm (nI (q + 1)) fun (v168 : Int32) => (some (.inl (v167, v168)) : Option ((Int32 × Int32) ⊕ Int32))) (fm_K (fun s => p < q + 1 ∧ s.2 = nI (q + 1) ∧ s.1 = nI (fm_su (fun p => fm_su (fun q => ocl lf (fun p => wd (fm_ll L p)) ps cr p q) L.1.length) p + fm_su (fun q => ocl lf (fun p => wd (fm_ll L p)) ps cr p q) (q + 1))) (fun a => fm_T (fw_nm (nI (p + 1)) fun (v174 : Int32) => (some (.inl (a, v174)) : Option ((Int32 × Int32) ⊕ Int32))) (fm_K (fun s => s.2 = nI (p + 1) ∧ s.1 = nI (fm_su (fun p => fm_su (fun q => ocl lf (fun p => wd (fm_ll L p)) ps cr p q) L.1.length) (p + 1))) (fun a => fm_T (some (a, ν)) fun p => p.1 = nI (omc lf (fun p => wd (fm_ll L p)) ps cr L.1.length) ∧ fm_F [20] μ p.2)))) := fun v hv => by
        rw [fm_nm, fm_nm, fm_some, fm_Kl, nI_add, hv]
        exact ⟨by omega, rfl, by rw [Nat.add_assoc]; rfl⟩
      rw [nI_1]
      by_cases o1 : oco lf ps cr q + wd (fm_ll L q) ≤ oco lf ps cr p
      · rw [if_pos (nI_le o1 (by omega)), fm_bs]
        refine fin 0 ?_
        unfold ocl
        rw [if_neg (fun z => z.2.1 o1)]
      · rw [if_neg (nI_ge (by omega) (by omega)), fm_bs, fm_bs, fm_rd (by omega) (by omega), fm_bs, r6 p hp, fm_rd lp (by omega), fm_bs, yo.2.1 _ lp, nI_add]
        by_cases o2 : oco lf ps cr p + wd (fm_ll L p) ≤ oco lf ps cr q
        · rw [if_pos (nI_le o2 (by omega)), fm_bs]
          refine fin 0 ?_
          unfold ocl
          rw [if_neg (fun z => z.2.2 o2)]
        · rw [if_neg (nI_ge (by omega) (by omega)), fm_bs]
          refine fin 1 ?_
          unfold ocl
          rw [if_pos ⟨hpq, o1, o2⟩]
    · rintro ⟨x, y⟩ ⟨_, e1, e2⟩
      simp only at e1 e2
      subst e1 e2
      unfold f_M_clashes_L94
      try dsimp only
      rw [n6', if_pos (nI_le (Nat.le_refl _) (by omega)), fm_some, fm_Kr, fm_nm, fm_some, fm_Kl]
      exact ⟨rfl, rfl⟩
    · have := fm_su_b (g := fun q => ocl lf (fun p => wd (fm_ll L p)) ps cr p q) (b := 0) (p + 1) (fun q hq => by unfold ocl; rw [if_neg (by omega)]; exact Nat.le_refl _)
      show nI _ = nI (_ + fm_su (fun q => ocl lf (fun p => wd (fm_ll L p)) ps cr p q) (p + 1))
      rw [show fm_su (fun q => ocl lf (fun p => wd (fm_ll L p)) ps cr p q) (p + 1) = 0 by omega, Nat.add_zero]
  · rintro ⟨x, y⟩ ⟨e1, e2⟩
    simp only at e1 e2
    subst e1 e2
    unfold f_M_clashes_L81
    try dsimp only
    rw [n6', if_pos (nI_le (Nat.le_refl _) (by omega)), fm_some, fm_Kr, fm_some]
    exact ⟨rfl, F⟩
