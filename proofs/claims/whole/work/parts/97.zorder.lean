/-! order -/
theorem fm_lf_st {L : fm_Li} {wd : Nat → Nat} {p : Nat} : ∀ q, p < q → fm_lf L wd p + wd (fm_ll L p) ≤ fm_lf L wd q := by
  intro q
  induction q with
  | zero => intro h; exact absurd h (Nat.not_lt_zero _)
  | succ q ih =>
    intro h
    show _ ≤ fm_lf L wd q + (wd (fm_ll L q) + if L.2.testBit q then 2 else 0)
    by_cases e : p = q
    · subst e; omega
    · have := ih (by omega); omega
theorem fo_okp {N : Nat} (n1 : 1 ≤ N) (n6 : N ≤ 6) {σ : List Nat} (h : σ ∈ ex N N []) : σ.length = N ∧ (∀ j, j < N → σ.getD j 0 < N) ∧ ∀ k, k < N → ip σ k < N ∧ ∀ j, j < N → (σ.getD j 0 = k ↔ j = ip σ k) := by
  have h1 := List.all_eq_true.mp okp_6 N (List.mem_range.mpr (by omega))
  have h0 : (N == 0) = false := by rw [beq_eq_false_iff_ne]; omega
  rw [h0, Bool.false_or] at h1
  have h2 := List.all_eq_true.mp h1 σ h
  unfold okp at h2
  rw [Bool.and_eq_true, Bool.and_eq_true] at h2
  obtain ⟨⟨a, b⟩, c⟩ := h2
  refine ⟨of_decide_eq_true a, fun j hj => of_decide_eq_true (List.all_eq_true.mp b j (List.mem_range.mpr hj)), fun k hk => ?_⟩
  have d := List.all_eq_true.mp c k (List.mem_range.mpr hk)
  rw [Bool.and_eq_true] at d
  exact ⟨of_decide_eq_true d.1, fun j hj => of_decide_eq_true (List.all_eq_true.mp d.2 j (List.mem_range.mpr hj))⟩
theorem fo_chn {N : Nat} (n1 : 1 ≤ N) (n6 : N ≤ 6) : chn N 721 (List.range N) = ex N N [] ∧ (ex N N []).length < 721 := by
  have h1 := List.all_eq_true.mp chn_6 N (List.mem_range.mpr (by omega))
  have h0 : (N == 0) = false := by rw [beq_eq_false_iff_ne]; omega
  rw [h0, Bool.false_or, Bool.and_eq_true] at h1
  exact ⟨eq_of_beq h1.1, of_decide_eq_true h1.2⟩
theorem sp_min {cost : List Nat → Nat} {σ : List Nat} : ∀ (l : List (List Nat)) (st : Nat × List Nat), σ ∈ l → (l.foldl (sp cost) st).1 ≤ cost σ := by
  intro l
  induction l with
  | nil => intro st h; cases h
  | cons x l ih =>
    intro st h
    show (l.foldl (sp cost) (sp cost st x)).1 ≤ cost σ
    rcases List.mem_cons.mp h with e | e
    · have h1 := sp_le (cost := cost) l (sp cost st x)
      have h2 : (sp cost st x).1 ≤ cost x := by
        unfold sp
        split
        · exact Nat.le_refl _
        · omega
      rw [e]; omega
    · exact ih _ e
theorem fm_rgD {N j : Nat} (h : j < N) : (List.range N).getD j 0 = j := by
  rw [List.getD_eq_getElem?_getD, List.getElem?_range h]
  rfl
theorem fy_ord98 {μ : fw_M} {q p9 : Int32 × fw_M} {N b c : Nat} (hq : q.1 = nI N) (n6 : N ≤ 6) (hp : p9.1 = nI c) (b1 : b ≤ 1000) (c1 : c ≤ 1000) : fm_T (fw_wh (f_M_order_L98 q (nI b) p9) fw_N (0, μ)) (fun ν => fm_F [19] μ ν ∧ (c < b → ∀ i, i < N → ν.1 19 i = μ.1 18 i) ∧ (¬ c < b → ν.1 19 = μ.1 19)) := by
  by_cases lt : c < b
  · refine fm_up (P := fun i s => s.1 = nI i ∧ fm_F [19] μ s.2 ∧ ∀ j, j < i → s.2.1 19 j = μ.1 18 j) N ?_ ?_ 0 (Nat.zero_le _) ⟨rfl, fm_F.rf, fun j hj => absurd hj (Nat.not_lt_zero _)⟩ (by omega)
    · rintro i ⟨x, ν⟩ hi ⟨e1, F, a1⟩
      simp only at e1 F a1
      subst e1
      unfold f_M_order_L98
      try dsimp only
      rw [hq, if_neg (nI_ge hi (by omega)), hp, if_neg (nI_ge lt (by omega)), fm_rd (by omega) (by omega), fm_bs, fm_si (by omega) (by omega), fm_bs, fm_nm, fm_some, fm_Kl]
      refine ⟨nI_1 i, F.wr, fun j hj => ?_⟩
      by_cases e : j = i
      · rw [fm_wr, if_pos ⟨rfl, e⟩, F.at 18, e]
      · rw [fm_wr, if_neg (fun z => e z.2)]; exact a1 j (by omega)
    · rintro ⟨x, ν⟩ ⟨e1, F, a1⟩
      simp only at e1 F a1
      subst e1
      unfold f_M_order_L98
      try dsimp only
      rw [hq, if_pos (nI_le (Nat.le_refl _) (by omega)), fm_some, fm_Kr]
      exact ⟨F, fun _ => a1, fun z => absurd lt z⟩
  · refine fm_wh (P := fun m s => m = 0 ∧ s = (0, μ)) ?_ (i := 0) ⟨rfl, rfl⟩ (by omega)
    rintro m ⟨x, ν⟩ ⟨rfl, e⟩
    obtain ⟨rfl, rfl⟩ := Prod.mk.inj e
    unfold f_M_order_L98
    try dsimp only
    have done : fm_F [19] ν ν ∧ (c < b → ∀ i, i < N → ν.1 19 i = ν.1 18 i) ∧ (¬ c < b → ν.1 19 = ν.1 19) := ⟨fm_F.rf, fun z => absurd z lt, fun _ => rfl⟩
    by_cases n0 : q.1 ≤ 0
    · rw [if_pos n0, fm_some, fm_Kr]; exact done
    · rw [if_neg n0, hp, if_pos (nI_le (by omega) (by omega)), fm_some, fm_Kr]; exact done
theorem fy_ordL {μ : fw_M} {can : Nat → Prop} {P : List Nat} {L : fm_Li} {wd : Nat → Nat} {cr : Nat} {q : Int32 × fw_M} (pl : fp_plan can P (fp_all L)) (h : yO μ L wd cr) (wl : wL L) (ww : wW wd) (c3 : cr ≤ 3) (n1 : 1 ≤ P.length) (n6 : P.length ≤ 6) (h17 : ∀ i, i < P.length → μ.1 17 i = nI (P.getD i 0)) (hq : q.1 = nI P.length) (y0 : yS μ (List.range P.length)) : fm_T (fw_wh (f_M_order_L83 q) fw_N (1000, 1, μ)) (fun r => fm_F [18, 19, 20] μ r.2 ∧ r.1 = nI ((ex P.length P.length []).foldl (sp (fun σ => oxc (oW (fm_lf L wd) (fun p => wd (fm_ll L p)) (po P) cr P.length L.1.length) (fun i => σ.getD i 0) P.length)) (1000, [])).1 ∧ ∀ i, i < P.length → r.2.1 19 i = nI (((ex P.length P.length []).foldl (sp (fun σ => oxc (oW (fm_lf L wd) (fun p => wd (fm_ll L p)) (po P) cr P.length L.1.length) (fun i => σ.getD i 0) P.length)) (1000, [])).2.getD i 0)) := by
  have l10 := wl.1
  obtain ⟨ch1, ch2⟩ := fo_chn n1 n6
  have cost : ∀ σ, σ ∈ ex P.length P.length [] → oxc (oW (fm_lf L wd) (fun p => wd (fm_ll L p)) (po P) cr P.length L.1.length) (fun i => σ.getD i 0) P.length = omc (fm_lf L wd) (fun p => wd (fm_ll L p)) (fun p => ip σ (po P p)) cr L.1.length := fun σ hσ => by
    obtain ⟨_, _, o3⟩ := fo_okp n1 n6 hσ
    exact o_cost (fun p q hpq _ => fm_lf_st q hpq) (fun p hp => (o3 _ (po_all pl hp).1).1) (fun p hp j hj => (o3 _ (po_all pl hp).1).2 j hj)
  have cle : ∀ σ, σ ∈ ex P.length P.length [] → oxc (oW (fm_lf L wd) (fun p => wd (fm_ll L p)) (po P) cr P.length L.1.length) (fun i => σ.getD i 0) P.length ≤ 100 := fun σ hσ => by rw [cost σ hσ]; exact omc_b l10
  generalize hW : oW (fm_lf L wd) (fun p => wd (fm_ll L p)) (po P) cr P.length L.1.length = W at cost cle ⊢
  generalize hc : (fun σ : List Nat => oxc W (fun i => σ.getD i 0) P.length) = co
  have hco : ∀ σ, co σ = oxc W (fun i => σ.getD i 0) P.length := fun σ => by rw [← hc]
  have mem0 : List.range P.length ∈ ex P.length P.length [] := by rw [← ch1]; exact List.mem_cons_self ..
  generalize hR : (ex P.length P.length []).foldl (sp co) (1000, []) = R
  have R1 : R.1 ≤ 100 := by
    have h1 := sp_min (cost := co) (ex P.length P.length []) (1000, []) mem0
    rw [hR, hco] at h1
    have := cle _ mem0
    omega
  refine fm_wh (P := fun m st => ∃ b : Nat × List Nat, b.1 ≤ 1000 ∧ st.1 = nI b.1 ∧ (b.1 < 1000 → ∀ i, i < P.length → st.2.2.1 19 i = nI (b.2.getD i 0)) ∧ fm_F [18, 19, 20] μ st.2.2 ∧ ((st.2.1 = 1 ∧ ∃ k σ, m = k + 1 ∧ σ.length = P.length ∧ yS st.2.2 σ ∧ (chn P.length k σ).length < k ∧ (∀ τ, τ ∈ chn P.length k σ → τ ∈ ex P.length P.length []) ∧ (chn P.length k σ).foldl (sp co) b = R) ∨ (st.2.1 = 0 ∧ m = 0 ∧ b = R))) ?_ (i := 722) ⟨(1000, []), Nat.le_refl _, rfl, fun z => absurd z (Nat.lt_irrefl _), fm_F.rf, Or.inl ⟨rfl, 721, List.range P.length, rfl, List.length_range, y0, by rw [ch1]; exact ch2, fun τ hτ => by rw [← ch1]; exact hτ, by rw [ch1]; exact hR⟩⟩ (by omega)
  rintro m ⟨x4, x5, ν⟩ ⟨b, b1, e1, b19, F, al⟩
  simp only at e1 b19 F al
  subst e1
  unfold f_M_order_L83
  try dsimp only
  rcases al with ⟨e5, k, σ, rfl, sl, ys, ckl, cm, cf⟩ | ⟨e5, rfl, rfl⟩
  · subst e5
    obtain ⟨k', rfl⟩ : ∃ k', k = k' + 1 := ⟨k - 1, by omega⟩
    have cd : chn P.length (k' + 1) σ = σ :: (match nx P.length σ with | none => [] | some l2 => chn P.length k' l2) := rfl
    rw [cd] at ckl cm cf
    have σm : σ ∈ ex P.length P.length [] := cm σ (List.mem_cons_self ..)
    obtain ⟨o1, o2, o3⟩ := fo_okp n1 n6 σm
    have FF : fm_F [18, 19, 20] μ ν := F
    rw [if_neg fm_n10, hq, fm_bind]
    refine (fy_clash (σ := fun j => σ.getD j 0) (ps := fun p => ip σ (po P p)) pl (h.F F) wl ww c3 n6 (fun i hi => by rw [F.at 17]; exact h17 i hi) (fun j hj => ⟨(ys j (by omega)).1, o2 j hj⟩) (fun p hp => (o3 _ (po_all pl hp).1).1) (fun p hp j hj => (o3 _ (po_all pl hp).1).2 j hj)).mono ?_
    rintro ⟨c, o⟩ ⟨ec, O⟩
    simp only at ec O
    rw [← cost σ σm, ← hco] at ec
    have cb := cle σ σm
    rw [← hco] at cb
    subst ec
    rw [fm_bind]
    refine (fy_ord98 (q := q) (p9 := (nI (co σ), o)) hq n6 rfl b1 (by omega)).mono ?_
    intro w ⟨H, w1, w2⟩
    have yw : yS w σ := fun j hj => by rw [H.at 18, O.at 18]; exact ys j hj
    have FW : fm_F [18, 19, 20] μ w := (F.tr O.up).tr H.up
    simp only
    rw [fm_nm, fm_bind]
    refine (fy_turns sl n1 n6 yw).mono ?_
    rintro ⟨x, z⟩ ⟨T, alt⟩
    simp only at T alt
    rw [fm_some, fm_Kl]
    have cf2 : (match nx P.length σ with | none => [] | some l2 => chn P.length k' l2).foldl (sp co) (sp co b σ) = R := cf
    have e1 : (if nI b.1 ≤ nI (co σ) then nI b.1 else nI (co σ)) = nI (sp co b σ).1 := by
      unfold sp
      by_cases lt : co σ < b.1
      · rw [if_neg (nI_ge lt (by omega)), if_pos lt]
      · rw [if_pos (nI_le (by omega) (by omega)), if_neg lt]
    have e2 : (sp co b σ).1 ≤ 1000 := by unfold sp; split <;> (try show co σ ≤ 1000) <;> omega
    have e3 : (sp co b σ).1 < 1000 → ∀ i, i < P.length → z.1 19 i = nI ((sp co b σ).2.getD i 0) := fun y i hi => by
      rw [T.at 19]
      by_cases lt : co σ < b.1
      · rw [w1 lt i hi, O.at 18, (ys i (by omega)).1]
        unfold sp
        rw [if_pos lt]
      · rw [w2 lt, O.at 19]
        unfold sp at y ⊢
        rw [if_neg lt] at y ⊢
        exact b19 y i hi
    rcases alt with ⟨rfl, a1⟩ | ⟨rfl, l2, a1, a2, a3⟩
    · rw [a1] at cf2
      exact ⟨0, by omega, sp co b σ, e2, e1, e3, FW.tr T.up, Or.inr ⟨rfl, rfl, cf2⟩⟩
    · rw [a1] at cf2 ckl cm
      refine ⟨k' + 1, by omega, sp co b σ, e2, e1, e3, FW.tr T.up, Or.inl ⟨rfl, k', l2, rfl, a2, a3, ?_, fun τ hτ => cm τ (List.mem_cons_of_mem _ hτ), cf2⟩⟩
      rw [List.length_cons] at ckl
      simp only at ckl
      omega
  · subst e5
    rw [if_pos rfl, fm_some, fm_Kr]
    exact ⟨F, rfl, b19 (by omega)⟩
theorem fy_ord51 {q : Int32 × fw_M} {μ : fw_M} {N : Nat} (hq : q.1 = nI N) (n6 : N ≤ 6) : fm_T (fw_wh (f_M_order_L51 q) fw_N (0, μ)) (fun ν => fm_F [18] μ ν ∧ yS ν (List.range N)) := by
  refine fm_up (P := fun i s => s.1 = nI i ∧ fm_F [18] μ s.2 ∧ ∀ j, j < i → s.2.1 18 j = nI j) N ?_ ?_ 0 (Nat.zero_le _) ⟨rfl, fm_F.rf, fun j hj => absurd hj (Nat.not_lt_zero _)⟩ (by omega)
  · rintro i ⟨x, ν⟩ hi ⟨e1, F, a1⟩
    simp only at e1 F a1
    subst e1
    unfold f_M_order_L51
    try dsimp only
    rw [hq, if_neg (nI_ge hi (by omega)), fm_si (by omega) (by omega), fm_bs, fm_nm, fm_some, fm_Kl]
    refine ⟨nI_1 i, F.wr, fun j hj => ?_⟩
    by_cases e : j = i
    · rw [fm_wr, if_pos ⟨rfl, e⟩, e]
    · rw [fm_wr, if_neg (fun z => e z.2)]; exact a1 j (by omega)
  · rintro ⟨x, ν⟩ ⟨e1, F, a1⟩
    simp only at e1 F a1
    subst e1
    unfold f_M_order_L51
    try dsimp only
    rw [hq, if_pos (nI_le (Nat.le_refl _) (by omega)), fm_some, fm_Kr]
    refine ⟨F, fun j hj => ?_⟩
    rw [List.length_range] at hj
    rw [fm_rgD hj]
    exact ⟨a1 j hj, by omega⟩
theorem fh_m2 {a : Int32} (h : -2 ≤ a ∧ a < 10) : a = -2 ∨ a = -1 ∨ ∃ j, j < 10 ∧ a = nI j := by
  by_cases c : 0 ≤ a
  · obtain ⟨j, hj, e⟩ := fh_cs (n := 10) (by omega) ⟨c, h.2⟩
    exact Or.inr (Or.inr ⟨j, hj, e⟩)
  · have h1 := Int32.le_iff_toInt_le.mp h.1
    have h2 := Int32.lt_iff_toInt_lt.mp (Int32.not_le.mp c)
    rw [show (-2 : Int32).toInt = -2 from rfl] at h1
    rw [show (0 : Int32).toInt = 0 from rfl] at h2
    have h3 : a.toInt = -2 ∨ a.toInt = -1 := by omega
    rcases h3 with e | e
    · exact Or.inl (Int32.toInt_inj.mp (by rw [e]; rfl))
    · exact Or.inr (Or.inl (Int32.toInt_inj.mp (by rw [e]; rfl)))
theorem fh_9 {a : Int32} : a ≤ 9 ↔ a < 10 := by
  rw [Int32.le_iff_toInt_le, Int32.lt_iff_toInt_lt, show (9 : Int32).toInt = 9 from rfl, show (10 : Int32).toInt = 10 from rfl]
  omega
theorem fo_order : fw_O_order fm_I := by
  intro n μx μm hn hI a1
  have hI2 := hI.up
  obtain ⟨⟨C, wc, xs, ms, kp⟩, im, tp, sh, rk⟩ := hI
  have l2 : μm.1 0 6 = nI C.2.1.1.length := ms.2.1.1.1
  have l10 := wc.2.1.1
  have hne : ¬ C.2.1.1.length = 0 → ¬ nI C.2.1.1.length = 0 := fun z => nI_ne0 (by omega) (by omega)
  unfold f_X_order f_M_order
  rw [fh_in (a := a1) (b := -2) (c := 9) (lo := -2) (hi := 9) rfl rfl, fm_bs]
  by_cases g1 : a1 < -2
  · rw [if_pos g1, if_neg (show ¬ (-2 ≤ a1 ∧ a1 ≤ 9) from fun z => Int32.not_le.mpr g1 z.1), if_pos rfl]
    exact ⟨_, _, _, rfl, rfl, hI2⟩
  by_cases g2 : a1 < 10
  · rw [if_neg g1, if_pos g2, if_pos (show (-2 ≤ a1 ∧ a1 ≤ 9) from ⟨Int32.not_lt.mp g1, fh_9.mpr g2⟩), if_neg fm_n10]
    by_cases n0 : C.2.1.1.length = 0
    · rw [fx_pulls0 xs n0, fm_bs, l2, n0, if_pos (show nI 0 = 0 from rfl), if_neg (show ¬ (0 : Int32) ≤ -2 by decide)]
      exact ⟨_, _, _, rfl, rfl, hI2⟩
    · obtain ⟨k, hk, rkn⟩ := rk.n
      obtain ⟨⟨r, νx⟩, e1, f, f1, rfl, F, kp2, v8⟩ := fx_pulls (q := 8) wc xs kp (Or.inl ⟨rfl, rfl, rfl⟩) n0
      obtain ⟨⟨r2, νm⟩, e2, f2, e3, f3, G, Z, ⟨k2, kk, rk2⟩, hP⟩ := fy_plans (fm_hM ms) wc.1.w2 wc.2.1 wc.2.2.2.1.1 rkn (by omega)
      simp only at F kp2 v8 e3 G Z rk2 hP
      subst e3
      have := fp_few_un f1 f3
      subst this
      have f10 := fp_few_10 (fp_all_b wc.2.1 n0).2 f1
      have xs2 : xS 1 νx C := xs.cong (F.rg 1 31) wc.2.2.2.2.1.1
      have ms2 : mS νm.1 C := ms.cong (Z 0 (by decide)) (Z 6 (by decide)) (Z 8 (by decide)) (Z 9 (by decide)) (Z 11 (by decide)) (G.rg 1 9)
      have fin : ∀ (ox om : fw_M), fm_F [71, 72, 73, 74] νx ox → fm_F [18, 19, 20] νm om → fm_I (n + 1) ox om := fun ox om A B => by
        have FA : fm_F [65, 66, 67, 68, 70, 71, 72, 73, 74, 81, 82] μx ox := (F.up : fm_F [65, 66, 67, 68, 70, 71, 72, 73, 74, 81, 82] μx νx).tr A.up
        have GB : fm_F [0, 13, 15, 16, 17, 18, 19, 20] μm om := (G.up : fm_F [0, 13, 15, 16, 17, 18, 19, 20] μm νm).tr B.up
        refine fm_mk wc (xs2.cong (A.rg 1 31) wc.2.2.2.2.1.1) (ms2.cong (by rw [B.at 0]) (by rw [B.at 0]) (by rw [B.at 0]) (by rw [B.at 0]) (by rw [B.at 0]) (B.rg 1 9)) (kp2.cong (A.at 81) (A.at 82)) im tp sh ((rk2.up (l := k2) B (by rw [B.at 0])).k (by omega)) FA GB (by rw [B.at 0]; exact Z 15 (by decide)) (by rw [B.at 0]; exact Z 32 (by decide))
      rw [show f_X_pullsFor 8 μx = some (fp_ans f, νx) from e1, fm_bs, l2, if_neg (hne n0), e2, fm_bs]
      simp only
      by_cases f99 : f = 99
      · subst f99
        rw [if_neg (show ¬ 0 ≤ fp_ans 99 by decide), if_neg (show ¬ nI 99 ≤ 98 by decide)]
        exact ⟨_, _, _, rfl, rfl, fin νx νm fm_F.rf fm_F.rf⟩
      · have ea : fp_ans f = nI f := by unfold fp_ans; rw [if_pos (by omega)]
        rw [ea, if_pos (nI_pos' (by omega)), if_pos (show nI f ≤ 98 from (nI_leI (b := 98) (by omega) (by omega)).mpr (by omega))]
        by_cases f6 : f ≤ 6
        · rw [if_pos (show nI f ≤ 6 from (nI_leI (b := 6) (by omega) (by omega)).mpr f6), if_pos (show nI f ≤ 6 from (nI_leI (b := 6) (by omega) (by omega)).mpr f6)]
          obtain ⟨P, P1, P2, P3⟩ := hP (by omega)
          have n1 : 1 ≤ P.length := by have := (po_all P2 (p := 0) (by omega)).1; omega
          have Q82 : ∀ i, i < P.length → νx.1 82 i = nI (P.getD i 0) := by
            rcases kp2.2 with z | ⟨f4, g1, g2, g3⟩
            · rw [v8] at z
              exact absurd z (fp_ans_ne (fp_all_b wc.2.1 n0).1 (fp_all_b wc.2.1 n0).2 f1)
            · have := fp_few_un f1 g1
              subst this
              obtain ⟨P5, Q1, Q2, Q3⟩ := g3 (by omega)
              have := fp_plan_un (by rw [P1, Q1]) P2 Q2
              subst this
              exact fun i hi => Q3 i (by omega)
          subst P1
          have cr3 : C.2.2.2.1 1 ≤ 3 := wc.2.2.2.1.2.1
          have xo : xO νx C.2.1 C.2.2.1 (C.2.2.2.1 1) := ⟨xs2.2.1, xs2.2.2.1, xs2.2.2.2.1 1 (by omega)⟩
          have yo : yO νm C.2.1 C.2.2.1 (C.2.2.2.1 1) := ⟨ms2.2.1, ms2.2.2.1, ms2.2.2.2.1 1 (by omega)⟩
          obtain ⟨w1, ew1, W1, W2, W3⟩ := fx_weigh P2 xo wc.2.1 wc.2.2.1 cr3 n1 f6 Q82
          obtain ⟨m1, em1, M1, M2⟩ := fy_ord51 (q := (nI P.length, νm)) (μ := νm) rfl f6
          have M17 : ∀ i, i < P.length → m1.1 17 i = nI (P.getD i 0) := fun i hi => by rw [M1.at 17]; exact P3 i hi
          obtain ⟨⟨c0, m2⟩, em2, ec0, M3⟩ := fy_clash (σ := fun j => (List.range P.length).getD j 0) (ps := fun p => po P p) P2 (yo.F M1) wc.2.1 wc.2.2.1 cr3 f6 M17 (fun j hj => ⟨(M2 j (by rw [List.length_range]; exact hj)).1, by rw [fm_rgD hj]; exact hj⟩) (fun p hp => (po_all P2 hp).1) (fun p hp j hj => by rw [fm_rgD hj])
          simp only at ec0 M3
          have M4 : fm_F [18, 20] νm m2 := (M1.up : fm_F [18, 20] νm m1).tr M3.up
          obtain ⟨⟨b, m3⟩, em3, M5, eb, M6⟩ := fy_ordL (q := (nI P.length, νm)) P2 (yo.F M4) wc.2.1 wc.2.2.1 cr3 n1 f6 (fun i hi => by rw [M4.at 17]; exact P3 i hi) rfl (fun j hj => by rw [M3.at 18]; exact M2 j hj)
          simp only at M5 eb M6
          have MM : fm_F [18, 19, 20] νm m3 := (M4.up : fm_F [18, 19, 20] νm m2).tr M5
          rw [em1, fm_bs, em2, fm_bs, em3, fm_bs]
          simp only
          have asp : c0 = nI (oxc (oW (fm_lf C.2.1 C.2.2.1) (fun p => C.2.2.1 (fm_ll C.2.1 p)) (po P) (C.2.2.2.1 1) P.length C.2.1.1.length) (fun i => i) P.length) := by
            rw [ec0, o_cost (ps := fun p => po P p) (fun p q hpq _ => fm_lf_st q hpq) (fun p hp => (po_all P2 hp).1) (fun p hp j hj => Iff.rfl)]
          have WW : fm_F [71, 72, 73, 74] νx w1 := W1.up
          have best : fm_T (f_Orders_findBest w1) _ := fx_best f6 (fun a b c => oW_b l10) W3 W2
          obtain ⟨w2, ew2, B1, B2⟩ := best
          have BB : fm_F [71, 72, 73, 74] νx w2 := WW.tr B1.up
          generalize hR : (ex P.length P.length []).foldl (sp (fun σ => oxc (oW (fm_lf C.2.1 C.2.2.1) (fun p => C.2.2.1 (fm_ll C.2.1 p)) (po P) (C.2.2.2.1 1) P.length C.2.1.1.length) (fun i => σ.getD i 0) P.length)) (1000, []) = R at eb M6 B2
          rcases fh_m2 ⟨Int32.not_lt.mp g1, g2⟩ with rfl | rfl | ⟨j, hj, rfl⟩
          · rw [if_pos (show (-2 : Int32) < nI P.length from Int32.lt_of_lt_of_le (show (-2 : Int32) < 0 by decide) (nI_pos' (by omega))), ew1, fm_bs, if_neg (show ¬ (-2 : Int32) = -1 by decide), ew2, fm_bs, if_pos rfl, fm_bs, if_neg (show ¬ (-2 : Int32) = -1 by decide), if_pos rfl, fm_bs, B2.1, eb]
            exact ⟨_, _, _, rfl, rfl, fin w2 m3 BB MM⟩
          · obtain ⟨⟨c1, w3⟩, ew3, ec1, W5⟩ := fx_asp f6 W3 W2
            simp only at ec1 W5
            rw [if_pos (show (-1 : Int32) < nI P.length from Int32.lt_of_lt_of_le (show (-1 : Int32) < 0 by decide) (nI_pos' (by omega))), ew1, fm_bs, if_pos rfl, ew3, fm_bs, if_pos rfl, fm_bs, asp, ec1]
            exact ⟨_, _, _, rfl, rfl, fin w3 m3 (WW.tr W5.up) MM⟩
          · have j1 : ¬ nI j = -1 := fm_nne (by omega)
            have j2 : ¬ nI j = -2 := fun z => by
              have : (0 : Int32) ≤ nI j := nI_pos' (by omega)
              rw [z] at this
              exact absurd this (by decide)
            by_cases c : P.length ≤ j
            · rw [if_neg (nI_nlt c (by omega)), if_neg j1, if_neg j2, if_pos (nI_le c (by omega)), fm_bs]
              exact ⟨_, _, _, rfl, rfl, fin νx m3 fm_F.rf MM⟩
            · have R1 : R.1 < 1000 := by
                have mem0 : List.range P.length ∈ ex P.length P.length [] := by rw [← (fo_chn n1 f6).1]; exact List.mem_cons_self ..
                have h1 := sp_min (cost := fun σ => oxc (oW (fm_lf C.2.1 C.2.2.1) (fun p => C.2.2.1 (fm_ll C.2.1 p)) (po P) (C.2.2.2.1 1) P.length C.2.1.1.length) (fun i => σ.getD i 0) P.length) (ex P.length P.length []) (1000, []) mem0
                rw [hR] at h1
                obtain ⟨_, _, o3⟩ := fo_okp n1 f6 mem0
                have h2 : oxc (oW (fm_lf C.2.1 C.2.2.1) (fun p => C.2.2.1 (fm_ll C.2.1 p)) (po P) (C.2.2.2.1 1) P.length C.2.1.1.length) (fun i => (List.range P.length).getD i 0) P.length ≤ 100 := by
                  rw [o_cost (ps := fun p => ip (List.range P.length) (po P p)) (fun p q hpq _ => fm_lf_st q hpq) (fun p hp => (o3 _ (po_all P2 hp).1).1) (fun p hp j hj => (o3 _ (po_all P2 hp).1).2 j hj)]
                  exact omc_b l10
                omega
              rw [if_pos (nI_lt (by omega) (by omega)), ew1, fm_bs, if_neg j1, ew2, fm_bs, if_neg j2, fm_rd (by omega) (by omega), fm_bs, fm_bs, if_neg j1, if_neg j2, if_neg (nI_ge (by omega) (by omega)), fm_rd (by omega) (by omega), fm_bs, fm_bs, M6 j (by omega), B2.2.2 R1 j (by omega)]
              exact ⟨_, _, _, rfl, rfl, fin w2 m3 BB MM⟩
        · rw [if_neg (show ¬ nI f ≤ 6 from fun z => f6 ((nI_leI (b := 6) (by omega) (by omega)).mp z)), if_neg (show ¬ nI f ≤ 6 from fun z => f6 ((nI_leI (b := 6) (by omega) (by omega)).mp z))]
          exact ⟨_, _, _, rfl, rfl, fin νx νm fm_F.rf fm_F.rf⟩
  · rw [if_neg g1, if_neg g2, if_neg (show ¬ (-2 ≤ a1 ∧ a1 ≤ 9) from fun z => g2 (fh_9.mp z.2)), if_pos rfl]
    exact ⟨_, _, _, rfl, rfl, hI2⟩
