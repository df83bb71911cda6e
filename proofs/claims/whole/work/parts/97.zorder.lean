/-! order -/
theorem fm_lf_st {L : fm_Li} {wd : Nat → Nat} {p : Nat} : ∀ q, p < q → fm_lf L wd p + wd (fm_ll L p) ≤ fm_lf L wd q := by
  intro q
  induction q with
  | zero => intro h; exact absurd h (Nat.not_lt_zero _)
  | succ q ih =>
    intro h
    show _ ≤ fm_lf L wd q + (wd (fm_ll L q) + if L.2.testBit q then 2 else 0)
    by_cases e : p = q
    · subst e; omega
    · have := ih (by omega); omega
theorem fo_okp {N : Nat} (n1 : 1 ≤ N) (n6 : N ≤ 6) {σ : List Nat} (h : σ ∈ ex N N []) : σ.length = N ∧ (∀ j, j < N → σ.getD j 0 < N) ∧ ∀ k, k < N → ip σ k < N ∧ ∀ j, j < N → (σ.getD j 0 = k ↔ j = ip σ k) := by
  have h1 := List.all_eq_true.mp okp_6 N (List.mem_range.mpr (by omega))
  have h0 : (N == 0) = false := by rw [beq_eq_false_iff_ne]; omega
  rw [h0, Bool.false_or] at h1
  have h2 := List.all_eq_true.mp h1 σ h
  unfold okp at h2
  rw [Bool.and_eq_true, Bool.and_eq_true] at h2
  obtain ⟨⟨a, b⟩, c⟩ := h2
  refine ⟨of_decide_eq_true a, fun j hj => of_decide_eq_true (List.all_eq_true.mp b j (List.mem_range.mpr hj)), fun k hk => ?_⟩
  have d := List.all_eq_true.mp c k (List.mem_range.mpr hk)
  rw [Bool.and_eq_true] at d
  exact ⟨of_decide_eq_true d.1, fun j hj => of_decide_eq_true (List.all_eq_true.mp d.2 j (List.mem_range.mpr hj))⟩
theorem fo_chn {N : Nat} (n1 : 1 ≤ N) (n6 : N ≤ 6) : chn N 721 (List.range N) = ex N N [] ∧ (ex N N []).length < 721 := by
  have h1 := List.all_eq_true.mp chn_6 N (List.mem_range.mpr (by omega))
  have h0 : (N == 0) = false := by rw [beq_eq_false_iff_ne]; omega
  rw [h0, Bool.false_or, Bool.and_eq_true] at h1
  exact ⟨eq_of_beq h1.1, of_decide_eq_true h1.2⟩
theorem sp_min {cost : List Nat → Nat} {σ : List Nat} : ∀ (l : List (List Nat)) (st : Nat × List Nat), σ ∈ l → (l.foldl (sp cost) st).1 ≤ cost σ := by
  intro l
  induction l with
  | nil => intro st h; cases h
  | cons x l ih =>
    intro st h
    show (l.foldl (sp cost) (sp cost st x)).1 ≤ cost σ
    rcases List.mem_cons.mp h with e | e
    · have h1 := sp_le (cost := cost) l (sp cost st x)
      have h2 : (sp cost st x).1 ≤ cost x := by
        unfold sp
        split
        · exact Nat.le_refl _
        · omega
      rw [e]; omega
    · exact ih _ e
theorem fm_rgD {N j : Nat} (h : j < N) : (List.range N).getD j 0 = j := by
  rw [List.getD_eq_getElem?_getD, List.getElem?_range h]
  rfl
theorem fy_ord98 {μ : fw_M} {q p9 : Int32 × fw_M} {N b c : Nat} (hq : q.1 = nI N) (n6 : N ≤ 6) (hp : p9.1 = nI c) (b1 : b ≤ 1000) (c1 : c ≤ 1000) : fm_T (fw_wh (f_M_order_L98 q (nI b) p9) fw_N (0, μ)) (fun ν => fm_F [19] μ ν ∧ (c < b → ∀ i, i < N → ν.1 19 i = μ.1 18 i) ∧ (¬ c < b → ν.1 19 = μ.1 19)) := by
  by_cases lt : c < b
  · refine fm_up (P := fun i s => s.1 = nI i ∧ fm_F [19] μ s.2 ∧ ∀ j, j < i → s.2.1 19 j = μ.1 18 j) N ?_ ?_ 0 (Nat.zero_le _) ⟨rfl, fm_F.rf, fun j hj => absurd hj (Nat.not_lt_zero _)⟩ (by omega)
    · rintro i ⟨x, ν⟩ hi ⟨e1, F, a1⟩
      simp only at e1 F a1
      subst e1
      unfold f_M_order_L98
      try dsimp only
      rw [hq, if_neg (nI_ge hi (by omega)), hp, if_neg (nI_ge lt (by omega)), fm_rd (by omega) (by omega), fm_bs, fm_si (by omega) (by omega), fm_bs, fm_nm, fm_some, fm_Kl]
      refine ⟨nI_1 i, F.wr, fun j hj => ?_⟩
      by_cases e : j = i
      · rw [fm_wr, if_pos ⟨rfl, e⟩, F.at 18, e]
      · rw [fm_wr, if_neg (fun z => e z.2)]; exact a1 j (by omega)
    · rintro ⟨x, ν⟩ ⟨e1, F, a1⟩
      simp only at e1 F a1
      subst e1
      unfold f_M_order_L98
      try dsimp only
      rw [hq, if_pos (nI_le (Nat.le_refl _) (by omega)), fm_some, fm_Kr]
      exact ⟨F, fun _ => a1, fun z => absurd lt z⟩
  · refine fm_wh (P := fun m s => m = 0 ∧ s = (0, μ)) ?_ (i := 0) ⟨rfl, rfl⟩ (by omega)
    rintro m ⟨x, ν⟩ ⟨rfl, e⟩
    obtain ⟨rfl, rfl⟩ := Prod.mk.inj e
    unfold f_M_order_L98
    try dsimp only
    have done : fm_F [19] ν ν ∧ (c < b → ∀ i, i < N → ν.1 19 i = ν.1 18 i) ∧ (¬ c < b → ν.1 19 = ν.1 19) := ⟨fm_F.rf, fun z => absurd z lt, fun _ => rfl⟩
    by_cases n0 : q.1 ≤ 0
    · rw [if_pos n0, fm_some, fm_Kr]; exact done
    · rw [if_neg n0, hp, if_pos (nI_le (by omega) (by omega)), fm_some, fm_Kr]; exact done
theorem fy_ordL {μ : fw_M} {can : Nat → Prop} {P : List Nat} {L : fm_Li} {wd : Nat → Nat} {cr : Nat} {q : Int32 × fw_M} (pl : fp_plan can P (fp_all L)) (h : yO μ L wd cr) (wl : wL L) (ww : wW wd) (c3 : cr ≤ 3) (n1 : 1 ≤ P.length) (n6 : P.length ≤ 6) (h17 : ∀ i, i < P.length → μ.1 17 i = nI (P.getD i 0)) (hq : q.1 = nI P.length) (y0 : yS μ (List.range P.length)) : fm_T (fw_wh (f_M_order_L83 q) fw_N (1000, 1, μ)) (fun r => fm_F [18, 19, 20] μ r.2 ∧ r.1 = nI ((ex P.length P.length []).foldl (sp (fun σ => oxc (oW (fm_lf L wd) (fun p => wd (fm_ll L p)) (po P) cr P.length L.1.length) (fun i => σ.getD i 0) P.length)) (1000, [])).1 ∧ ∀ i, i < P.length → r.2.1 19 i = nI (((ex P.length P.length []).foldl (sp (fun σ => oxc (oW (fm_lf L wd) (fun p => wd (fm_ll L p)) (po P) cr P.length L.1.length) (fun i => σ.getD i 0) P.length)) (1000, [])).2.getD i 0)) := by
  have l10 := wl.1
  obtain ⟨ch1, ch2⟩ := fo_chn n1 n6
  have cost : ∀ σ, σ ∈ ex P.length P.length [] → oxc (oW (fm_lf L wd) (fun p => wd (fm_ll L p)) (po P) cr P.length L.1.length) (fun i => σ.getD i 0) P.length = omc (fm_lf L wd) (fun p => wd (fm_ll L p)) (fun p => ip σ (po P p)) cr L.1.length := fun σ hσ => by
    obtain ⟨_, _, o3⟩ := fo_okp n1 n6 hσ
    exact o_cost (fun p q hpq _ => fm_lf_st q hpq) (fun p hp => (o3 _ (po_all pl hp).1).1) (fun p hp j hj => (o3 _ (po_all pl hp).1).2 j hj)
  have cle : ∀ σ, σ ∈ ex P.length P.length [] → oxc (oW (fm_lf L wd) (fun p => wd (fm_ll L p)) (po P) cr P.length L.1.length) (fun i => σ.getD i 0) P.length ≤ 100 := fun σ hσ => by rw [cost σ hσ]; exact omc_b l10
  generalize hW : oW (fm_lf L wd) (fun p => wd (fm_ll L p)) (po P) cr P.length L.1.length = W at cost cle ⊢
  generalize hc : (fun σ : List Nat => oxc W (fun i => σ.getD i 0) P.length) = co
  have hco : ∀ σ, co σ = oxc W (fun i => σ.getD i 0) P.length := fun σ => by rw [← hc]
  have mem0 : List.range P.length ∈ ex P.length P.length [] := by rw [← ch1]; exact List.mem_cons_self ..
  generalize hR : (ex P.length P.length []).foldl (sp co) (1000, []) = R
  have R1 : R.1 ≤ 100 := by
    have h1 := sp_min (cost := co) (ex P.length P.length []) (1000, []) mem0
    rw [hR, hco] at h1
    have := cle _ mem0
    omega
  refine fm_wh (P := fun m st => ∃ b : Nat × List Nat, b.1 ≤ 1000 ∧ st.1 = nI b.1 ∧ (b.1 < 1000 → ∀ i, i < P.length → st.2.2.1 19 i = nI (b.2.getD i 0)) ∧ fm_F [18, 19, 20] μ st.2.2 ∧ ((st.2.1 = 1 ∧ ∃ k σ, m = k + 1 ∧ σ.length = P.length ∧ yS st.2.2 σ ∧ (chn P.length k σ).length < k ∧ (∀ τ, τ ∈ chn P.length k σ → τ ∈ ex P.length P.length []) ∧ (chn P.length k σ).foldl (sp co) b = R) ∨ (st.2.1 = 0 ∧ m = 0 ∧ b = R))) ?_ (i := 722) ⟨(1000, []), Nat.le_refl _, rfl, fun z => absurd z (Nat.lt_irrefl _), fm_F.rf, Or.inl ⟨rfl, 721, List.range P.length, rfl, List.length_range, y0, by rw [ch1]; exact ch2, fun τ hτ => by rw [← ch1]; exact hτ, by rw [ch1]; exact hR⟩⟩ (by omega)
  rintro m ⟨x4, x5, ν⟩ ⟨b, b1, e1, b19, F, al⟩
  simp only at e1 b19 F al
  subst e1
  unfold f_M_order_L83
  try dsimp only
  rcases al with ⟨e5, k, σ, rfl, sl, ys, ckl, cm, cf⟩ | ⟨e5, rfl, rfl⟩
  · subst e5
    obtain ⟨k', rfl⟩ : ∃ k', k = k' + 1 := ⟨k - 1, by omega⟩
    have cd : chn P.length (k' + 1) σ = σ :: (match nx P.length σ with | none => [] | some l2 => chn P.length k' l2) := rfl
    rw [cd] at ckl cm cf
    have σm : σ ∈ ex P.length P.length [] := cm σ (List.mem_cons_self ..)
    obtain ⟨o1, o2, o3⟩ := fo_okp n1 n6 σm
    have FF : fm_F [18, 19, 20] μ ν := F
    rw [if_neg fm_n10, hq, fm_bind]
    refine (fy_clash (σ := fun j => σ.getD j 0) (ps := fun p => ip σ (po P p)) pl (h.F F) wl ww c3 n6 (fun i hi => by rw [F.at 17]; exact h17 i hi) (fun j hj => ⟨(ys j (by omega)).1, o2 j hj⟩) (fun p hp => (o3 _ (po_all pl hp).1).1) (fun p hp j hj => (o3 _ (po_all pl hp).1).2 j hj)).mono ?_
    rintro ⟨c, o⟩ ⟨ec, O⟩
    simp only at ec O
    rw [← cost σ σm, ← hco] at ec
    have cb := cle σ σm
    rw [← hco] at cb
    subst ec
    rw [fm_bind]
    refine (fy_ord98 (q := q) (p9 := (nI (co σ), o)) hq n6 rfl b1 (by omega)).mono ?_
    intro w ⟨H, w1, w2⟩
    have yw : yS w σ := fun j hj => by rw [H.at 18, O.at 18]; exact ys j hj
    have FW : fm_F [18, 19, 20] μ w := (F.tr O.up).tr H.up
    simp only
    rw [fm_nm, fm_bind]
    refine (fy_turns sl n1 n6 yw).mono ?_
    rintro ⟨x, z⟩ ⟨T, alt⟩
    simp only at T alt
    rw [fm_some, fm_Kl]
    have cf2 : (match nx P.length σ with | none => [] | some l2 => chn P.length k' l2).foldl (sp co) (sp co b σ) = R := cf
    have e1 : (if nI b.1 ≤ nI (co σ) then nI b.1 else nI (co σ)) = nI (sp co b σ).1 := by
      unfold sp
      by_cases lt : co σ < b.1
      · rw [if_neg (nI_ge lt (by omega)), if_pos lt]
      · rw [if_pos (nI_le (by omega) (by omega)), if_neg lt]
    have e2 : (sp co b σ).1 ≤ 1000 := by unfold sp; split <;> simp only <;> omega
    have e3 : (sp co b σ).1 < 1000 → ∀ i, i < P.length → z.1 19 i = nI ((sp co b σ).2.getD i 0) := fun y i hi => by
      rw [T.at 19]
      by_cases lt : co σ < b.1
      · rw [w1 lt i hi, O.at 18, (ys i (by omega)).1]
        unfold sp
        rw [if_pos lt]
      · rw [w2 lt, O.at 19]
        unfold sp at y ⊢
        rw [if_neg lt] at y ⊢
        exact b19 y i hi
    rcases alt with ⟨rfl, a1⟩ | ⟨rfl, l2, a1, a2, a3⟩
    · rw [a1] at cf2
      exact ⟨0, by omega, sp co b σ, e2, e1, e3, FW.tr T.up, Or.inr ⟨rfl, rfl, cf2⟩⟩
    · rw [a1] at cf2 ckl cm
      refine ⟨k' + 1, by omega, sp co b σ, e2, e1, e3, FW.tr T.up, Or.inl ⟨rfl, k', l2, rfl, a2, a3, ?_, fun τ hτ => cm τ (List.mem_cons_of_mem _ hτ), cf2⟩⟩
      rw [List.length_cons] at ckl
      simp only at ckl
      omega
  · subst e5
    rw [if_pos rfl, fm_some, fm_Kr]
    exact ⟨F, rfl, b19 (by omega)⟩
theorem fy_ord51 {q : Int32 × fw_M} {μ : fw_M} {N : Nat} (hq : q.1 = nI N) (n6 : N ≤ 6) : fm_T (fw_wh (f_M_order_L51 q) fw_N (0, μ)) (fun ν => fm_F [18] μ ν ∧ yS ν (List.range N)) := by
  refine fm_up (P := fun i s => s.1 = nI i ∧ fm_F [18] μ s.2 ∧ ∀ j, j < i → s.2.1 18 j = nI j) N ?_ ?_ 0 (Nat.zero_le _) ⟨rfl, fm_F.rf, fun j hj => absurd hj (Nat.not_lt_zero _)⟩ (by omega)
  · rintro i ⟨x, ν⟩ hi ⟨e1, F, a1⟩
    simp only at e1 F a1
    subst e1
    unfold f_M_order_L51
    try dsimp only
    rw [hq, if_neg (nI_ge hi (by omega)), fm_si (by omega) (by omega), fm_bs, fm_nm, fm_some, fm_Kl]
    refine ⟨nI_1 i, F.wr, fun j hj => ?_⟩
    by_cases e : j = i
    · rw [fm_wr, if_pos ⟨rfl, e⟩, e]
    · rw [fm_wr, if_neg (fun z => e z.2)]; exact a1 j (by omega)
  · rintro ⟨x, ν⟩ ⟨e1, F, a1⟩
    simp only at e1 F a1
    subst e1
    unfold f_M_order_L51
    try dsimp only
    rw [hq, if_pos (nI_le (Nat.le_refl _) (by omega)), fm_some, fm_Kr]
    refine ⟨F, fun j hj => ?_⟩
    rw [List.length_range] at hj
    rw [fm_rgD hj]
    exact ⟨a1 j hj, by omega⟩
