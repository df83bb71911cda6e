theorem fx_cast {μ : fw_M} {T : List fm_Ty} {t : fm_Ty} (hT : rT (μ.1 2 3) (μ.1 3) (μ.1 4) (μ.1 5) T) (ht : fm_ok t) (hf : T.length < 10) : fm_T (f_X_cast (nI t.1) (nI t.2.1) (nI t.2.2) μ) (fun p => p.1 = nI T.length ∧ fm_F [2, 3, 4, 5, 81] μ p.2 ∧ rT (p.2.1 2 3) (p.2.1 3) (p.2.1 4) (p.2.1 5) (T ++ [t]) ∧ ∀ j, j < 9 → p.2.1 81 j = 0) := by
  have hsx : μ.1 2 3 = nI T.length := hT.1
  have c1 : nI T.length < 10 := nI_lt (b := 10) hf (by omega)
  have c2 : ¬ 10 ≤ nI T.length := nI_ge (b := 10) hf (by omega)
  have s : ∀ (ν : fw_M) (k : Nat) (v : Int32), fw_si 10 ν k (nI T.length) v = some (fw_wr ν k T.length v) := fun ν k v => fm_si hf (by omega)
  simp only [f_X_cast, fh_fits1 (fh_nat_ty ht), hsx, c1, f_Case_add_2, c2, s, fm_bs, fm_nmE, fm_n10, if_true, if_false, fm_wr, Nat.reduceEqDiff, false_and, and_false, true_and, and_true, and_self, reduceIte]
  rw [fm_bind]
  refine fh_forget.mono ?_
  intro ν ⟨hF, hz⟩
  rw [fm_some]
  have g2 : ν.1 2 3 = nI (T.length + 1) := by
    rw [hF.at 2]
    simp only [fm_bs, fm_nmE, fm_n10, if_true, if_false, fm_wr, Nat.reduceEqDiff, false_and, and_false, true_and, and_true, and_self, reduceIte]
    exact nI_1 _
  refine ⟨by rw [g2]; exact nI_pred _, ?_, ?_, hz⟩
  · exact fun k hk => ((hF.up : fm_F [2, 3, 4, 5, 81] _ ν) k hk).trans ((((((fm_F.rf (l := [2, 3, 4, 5, 81]) (μ := μ)).wr).wr).wr).wr) k hk)
  · rw [show (ν.1 2 3) = nI (T.length + 1) from g2, hF.at 3, hF.at 4, hF.at 5]
    refine hT.add ?_ ?_ ?_ ?_ ?_ ?_
    · intro i hi; simp only [fm_bs, fm_nmE, fm_n10, if_true, if_false, fm_wr, Nat.reduceEqDiff, false_and, and_false, true_and, and_true, and_self, reduceIte, show ¬ i = T.length by omega]
    · intro i hi; simp only [fm_bs, fm_nmE, fm_n10, if_true, if_false, fm_wr, Nat.reduceEqDiff, false_and, and_false, true_and, and_true, and_self, reduceIte, show ¬ i = T.length by omega]
    · intro i hi; simp only [fm_bs, fm_nmE, fm_n10, if_true, if_false, fm_wr, Nat.reduceEqDiff, false_and, and_false, true_and, and_true, and_self, reduceIte, show ¬ i = T.length by omega]
    · simp only [fm_bs, fm_nmE, fm_n10, if_true, if_false, fm_wr, Nat.reduceEqDiff, false_and, and_false, true_and, and_true, and_self, reduceIte]
    · simp only [fm_bs, fm_nmE, fm_n10, if_true, if_false, fm_wr, Nat.reduceEqDiff, false_and, and_false, true_and, and_true, and_self, reduceIte]
    · simp only [fm_bs, fm_nmE, fm_n10, if_true, if_false, fm_wr, Nat.reduceEqDiff, false_and, and_false, true_and, and_true, and_self, reduceIte]
theorem fy_cast {μ : fw_M} {T : List fm_Ty} {t : fm_Ty} (hT : rT (μ.1 0 0) (μ.1 1) (μ.1 2) (μ.1 3) T) (ht : fm_ok t) (hf : T.length < 10) : fm_T (f_M_cast (nI t.1) (nI t.2.1) (nI t.2.2) μ) (fun p => p.1 = nI T.length ∧ fm_F [0, 1, 2, 3] μ p.2 ∧ (∀ j, j ≠ 0 → p.2.1 0 j = μ.1 0 j) ∧ rT (p.2.1 0 0) (p.2.1 1) (p.2.1 2) (p.2.1 3) (T ++ [t])) := by
  have hsx : μ.1 0 0 = nI T.length := hT.1
  have c1 : ¬ nI T.length = 10 := fun e => by have := (nI_eq (a := T.length) (b := 10) (by omega) (by omega)).mp e; omega
  have s : ∀ (ν : fw_M) (k : Nat) (v : Int32), fw_si 10 ν k (nI T.length) v = some (fw_wr ν k T.length v) := fun ν k v => fm_si hf (by omega)
  simp only [f_M_cast, fh_type1 (fh_nat_ty ht), hsx, c1, f_M_comes, s, fm_bs, fm_nmE, fm_n10, if_true, if_false, fm_wr, Nat.reduceEqDiff, false_and, and_false, true_and, and_true, and_self, reduceIte, fm_some]
  refine ⟨?_, ((((fm_F.rf).wr).wr).wr).wr, fun j hj => ?_, ?_⟩
  · rw [nI_1]; exact nI_pred _
  · simp only [fm_bs, fm_nmE, fm_n10, if_true, if_false, fm_wr, Nat.reduceEqDiff, false_and, and_false, true_and, and_true, and_self, reduceIte, hj]
  · rw [nI_1]
    refine hT.add ?_ ?_ ?_ ?_ ?_ ?_
    · intro i hi; simp only [fm_bs, fm_nmE, fm_n10, if_true, if_false, fm_wr, Nat.reduceEqDiff, false_and, and_false, true_and, and_true, and_self, reduceIte, show ¬ i = T.length by omega]
    · intro i hi; simp only [fm_bs, fm_nmE, fm_n10, if_true, if_false, fm_wr, Nat.reduceEqDiff, false_and, and_false, true_and, and_true, and_self, reduceIte, show ¬ i = T.length by omega]
    · intro i hi; simp only [fm_bs, fm_nmE, fm_n10, if_true, if_false, fm_wr, Nat.reduceEqDiff, false_and, and_false, true_and, and_true, and_self, reduceIte, show ¬ i = T.length by omega]
    · simp only [fm_bs, fm_nmE, fm_n10, if_true, if_false, fm_wr, Nat.reduceEqDiff, false_and, and_false, true_and, and_true, and_self, reduceIte]
    · simp only [fm_bs, fm_nmE, fm_n10, if_true, if_false, fm_wr, Nat.reduceEqDiff, false_and, and_false, true_and, and_true, and_self, reduceIte]
    · simp only [fm_bs, fm_nmE, fm_n10, if_true, if_false, fm_wr, Nat.reduceEqDiff, false_and, and_false, true_and, and_true, and_self, reduceIte]
theorem fm_notin {l : List Nat} {lo hi : Nat} (h : (l.all fun q => decide (q < lo ∨ hi < q)) = true) {k : Nat} (h1 : lo ≤ k) (h2 : k ≤ hi) : k ∉ l := by
  intro hk
  have := of_decide_eq_true (List.all_eq_true.mp h k hk)
  omega
/-- cells of a stretch are as they were -/
theorem fm_F.rg {l : List Nat} {μ ν : fw_M} (h : fm_F l μ ν) (lo hi : Nat) (hl : (l.all fun q => decide (q < lo ∨ hi < q)) = true := by decide) : ∀ k, lo ≤ k → k ≤ hi → ν.1 k = μ.1 k := fun k h1 h2 => h k (fm_notin hl h1 h2)
theorem fo_cast : fw_O_cast fm_I := by
  intro n μx μm hn hI a1 a2 a3
  have hI2 := hI.up
  obtain ⟨⟨C, wc, xs, ms, kp⟩, im, tp, sh, rk⟩ := hI
  by_cases hty : fh_ty a1 a2 a3
  · obtain ⟨t, ht, rfl, rfl, rfl⟩ := fh_ty_nat hty
    have hl := wc.1.1
    by_cases hf : C.1.length < 10
    · obtain ⟨⟨r, νx⟩, ex, rfl, hF, hT, hz⟩ := fx_cast xs.1 ht hf
      obtain ⟨⟨r2, νm⟩, em, rfl, hG, h0, hTm⟩ := fy_cast ms.1 ht hf
      simp only at hF hT hz hG h0 hTm
      refine ⟨_, νx, νm, ex, em, ⟨(C.1 ++ [t], C.2), ⟨wc.1.add hf ht, wc.2⟩, xs.T (hF.at 1) (hF.rg 6 31) hT wc.2.2.2.2.1.1, ms.T (h0 _ (by decide)) (h0 _ (by decide)) (h0 _ (by decide)) (h0 _ (by decide)) (hG.rg 4 9) hTm, fm_kept.none hz wc.2.2.2.2.1.1⟩, im.cong (hF.at 0) (hF.rg 32 62) (h0 _ (by decide)) (hG.at 23), tp.cong (by rw [hF.at 63]) (hF.at 64) (h0 _ (by decide)) (hG.at 10), fm_sheets sh (hF.rg 86 93) (hG.at 24) (hG.at 25) (hG.at 26), (rk.cong (h0 _ (by decide)) (hG.at 13)).up (by omega)⟩
    · have e : C.1.length = 10 := by omega
      have hsx : μx.1 2 3 = 10 := by rw [show (10 : Int32) = nI C.1.length by rw [e]; rfl]; exact xs.1.1
      have hsm : μm.1 0 0 = 10 := by rw [show (10 : Int32) = nI C.1.length by rw [e]; rfl]; exact ms.1.1
      have hlt : ¬ (10 : Int32) < 10 := by decide
      simp only [f_X_cast, f_M_cast, fh_fits1 hty, fh_type1 hty, hsx, hsm, hlt, fm_bs, fm_nmE, fm_n10, if_true, if_false, fm_wr, Nat.reduceEqDiff, false_and, and_false, true_and, and_true, and_self, reduceIte]
      exact ⟨_, _, _, rfl, rfl, hI2⟩
  · unfold f_X_cast f_M_cast
    rw [fh_fits0 hty, fh_type0 hty]
    exact ⟨_, _, _, rfl, rfl, hI2⟩
