/-! the reference reads a case -/
theorem yT.F {l : List Nat} {μ ν : fw_M} {t : List Nat} {a : Nat} (h : yT μ t a) (F : fm_F l μ ν) (d : fm_no l [0, 10] := by decide) : yT ν t a := by
  unfold yT at *
  rw [F 0 (fm_no_at d (by decide)), F 10 (fm_no_at d (by decide))]
  exact h
theorem yW.F {l : List Nat} {μ ν : fw_M} {t : List Nat} {a : Nat} (h : yW μ t a) (F : fm_F l μ ν) (d : fm_no l [0, 10] := by decide) : yW ν t a := by
  refine ⟨h.1.F F d, ?_⟩
  rw [F 0 (fm_no_at d (by decide))]
  exact h.2
theorem yT.Z {μ ν : fw_M} {t : List Nat} {a : Nat} (h : yT μ t a) (F : fm_F [0] μ ν) (Z : ∀ j, ν.1 0 j = μ.1 0 j) : yT ν t a := ⟨⟨by rw [Z]; exact h.1.1, fun i hi => by rw [F.at 10]; exact h.1.2 i hi⟩, by rw [Z]; exact h.2⟩
theorem fy_clause {μ : fw_M} {t : List Nat} {a n : Nat} (h : yW μ t a) (wt : wB t) (ha : a ≤ t.length) (hn : n < 10) : fm_T (f_M_clause (nI (3 * n)) μ) (fun ν => fm_F [0, 11] μ ν ∧ (∀ j, j ≠ 16 → j ≠ 17 → ν.1 0 j = μ.1 0 j) ∧ (∀ i, i < 3 * n → ν.1 11 i = μ.1 11 i) ∧ ((∃ e, pCl t a = .inl e ∧ e ≤ t.length ∧ yT ν t e ∧ ν.1 0 17 = 1) ∨ (∃ b ty, pCl t a = .inr (b, ty) ∧ a < b ∧ b ≤ t.length ∧ yW ν t b ∧ ν.1 11 (3 * n) = nI ty.1 ∧ ν.1 11 (3 * n + 1) = nI ty.2.1 ∧ ν.1 11 (3 * n + 2) = nI ty.2.2))) := by
  obtain ⟨s1, s2, s3⟩ := sk_p ha
  unfold f_M_clause pCl
  rw [nI_1, show nI (3 * n) + 2 = nI (3 * n + 2) from nI_add _ 2]
  have fk := fy_kind h wt ha
  rw [fm_bind] at fk ⊢
  refine fk.mono ?_
  intro p3 hp3
  rw [fm_bind]
  refine hp3.mono ?_
  rintro ⟨kk, o⟩ ⟨F, Z, alt⟩
  simp only at F Z alt
  simp only
  rw [fm_si (by omega) (by omega), fm_bs, show (97 : Int32) = nI 97 from rfl, show (108 : Int32) = nI 108 from rfl, fm_bind]
  generalize hζ : fw_wr o 11 (3 * n) kk = ζ
  have o11 : fm_F [11] o ζ := by rw [← hζ]; exact fm_F.rf.wr
  have FZ : fm_F [0, 11] μ ζ := (F.up).tr o11.up
  have ZZ : ∀ j, j ≠ 16 → ζ.1 0 j = μ.1 0 j := fun j hj => by rw [o11.at 0]; exact Z j hj
  have e11 : ∀ i, ζ.1 11 i = if i = 3 * n then kk else μ.1 11 i := fun i => by
    rw [← hζ, fm_wr]
    by_cases q : i = 3 * n
    · rw [if_pos ⟨rfl, q⟩, if_pos q]
    · rw [if_neg (fun z => q z.2), if_neg q, F.at 11]
  -- the end, after the third
  have fin : ∀ (w : fw_M) (v2 v3 : Int32), fm_F [0, 11] μ w → (∀ j, j ≠ 16 → j ≠ 17 → w.1 0 j = μ.1 0 j) → (∀ i, w.1 11 i = if i = 3 * n + 1 then v2 else if i = 3 * n then kk else μ.1 11 i) → ((∃ e, (pCl t a) = .inl e ∧ e ≤ t.length ∧ yT w t e ∧ w.1 0 17 = 1) ∨ (∃ b ty, pCl t a = .inr (b, ty) ∧ a < b ∧ b ≤ t.length ∧ yW w t b ∧ kk = nI ty.1 ∧ v2 = nI ty.2.1 ∧ v3 = nI ty.2.2)) → fm_T ((fw_si 30 w 11 (nI (3 * n + 2)) v3).bind fun μ124 => some μ124) (fun ν => fm_F [0, 11] μ ν ∧ (∀ j, j ≠ 16 → j ≠ 17 → ν.1 0 j = μ.1 0 j) ∧ (∀ i, i < 3 * n → ν.1 11 i = μ.1 11 i) ∧ ((∃ e, pCl t a = .inl e ∧ e ≤ t.length ∧ yT ν t e ∧ ν.1 0 17 = 1) ∨ (∃ b ty, pCl t a = .inr (b, ty) ∧ a < b ∧ b ≤ t.length ∧ yW ν t b ∧ ν.1 11 (3 * n) = nI ty.1 ∧ ν.1 11 (3 * n + 1) = nI ty.2.1 ∧ ν.1 11 (3 * n + 2) = nI ty.2.2))) := fun w v2 v3 W WZ w11 al => by
    rw [fm_si (by omega) (by omega), fm_bs, fm_some]
    have H : fm_F [11] w (fw_wr w 11 (3 * n + 2) v3) := fm_F.rf.wr
    refine ⟨W.tr H.up, fun j j1 j2 => by rw [H.at 0]; exact WZ j j1 j2, fun i hi => by rw [fm_wr, if_neg (by omega), w11, if_neg (by omega), if_neg (by omega)], ?_⟩
    rcases al with ⟨e, q1, q2, q3, q4⟩ | ⟨b, ty, q1, q2, q3, q4, q5, q6, q7⟩
    · exact Or.inl ⟨e, q1, q2, q3.F H, by rw [H.at 0]; exact q4⟩
    · refine Or.inr ⟨b, ty, q1, q2, q3, q4.F H, ?_, ?_, ?_⟩
      · rw [fm_wr, if_neg (by omega), w11, if_neg (by omega), if_pos rfl]; exact q5
      · rw [fm_wr, if_neg (by omega), w11, if_pos rfl]; exact q6
      · rw [fm_wr, if_pos ⟨rfl, rfl⟩]; exact q7
  unfold pCl at fin
  have a2 : ∀ (ξ : fw_M) (v : Int32), fm_F [0] ζ ξ → (∀ j, j ≠ 16 → j ≠ 17 → ξ.1 0 j = ζ.1 0 j) → fm_F [0, 11] μ (fw_wr ξ 11 (3 * n + 1) v) ∧ (∀ j, j ≠ 16 → j ≠ 17 → (fw_wr ξ 11 (3 * n + 1) v).1 0 j = μ.1 0 j) ∧ (∀ i, (fw_wr ξ 11 (3 * n + 1) v).1 11 i = if i = 3 * n + 1 then v else if i = 3 * n then kk else μ.1 11 i) ∧ fm_F [11] ξ (fw_wr ξ 11 (3 * n + 1) v) := fun ξ v X XZ => by
    refine ⟨(FZ.tr X.up).wr, fun j j1 j2 => by rw [fm_wrn (by decide), XZ j j1 j2]; exact ZZ j j1, fun i => ?_, fm_F.rf.wr⟩
    rw [fm_wr]
    by_cases q : i = 3 * n + 1
    · rw [if_pos ⟨rfl, q⟩, if_pos q]
    · rw [if_neg (fun z => q z.2), if_neg q, X.at 11, e11]
  rcases alt with ⟨b1, b2, b3, rfl, b4⟩ | ⟨b1, rfl, b4⟩
  · -- a kind with a letter and more
    have k0 : ¬ kd (fm_bb t (sk t a)) = 0 := by omega
    have b4' : yW ζ t (sk t a + 1) := b4.F o11
    simp only [b1, true_and, show kd (fm_bb t (sk t a)) < 4 by omega, if_true, k0, if_false] at fin ⊢
    obtain ⟨u1, u2, u3⟩ := sk_p (show sk t a + 1 ≤ t.length by omega)
    refine (fy_byte (but := -1) b4' wt (by omega) (by omega) (by omega) (by omega)).mono ?_
    rintro ⟨v, ξ⟩ ⟨X, XZ, alt⟩
    simp only at X XZ alt
    simp only
    rw [fm_si (by omega) (by omega), fm_bs]
    obtain ⟨A1, A2, A3, A4⟩ := a2 ξ v X XZ
    generalize hω : fw_wr ξ 11 (3 * n + 1) v = ω at A1 A2 A3 A4
    have i11 : ω.1 11 (3 * n + 1) = v := by rw [A3, if_pos rfl]
    rw [fm_bind]
    rcases alt with ⟨c1, c2, c3, c4, rfl, c5⟩ | ⟨c1, c2, c3⟩
    · have le : isLe (fm_bb t (sk t (sk t a + 1))) := ⟨c2, c3⟩
      rw [if_pos (show _ ∧ _ from ⟨c1, le⟩)] at fin
      rw [if_pos (show _ ∧ _ from ⟨c1, le⟩)]
      have c5' : yW ω t (sk t (sk t a + 1) + 1) := c5.F A4
      refine (fy_more c5' wt (by omega) b2 b3 hn (by omega) (fun _ => i11)).mono ?_
      rintro ⟨v3, w⟩ ⟨W, WZ, alt⟩
      simp only at W WZ alt
      refine fin w _ v3 (A1.tr W.up) (fun j j1 j2 => (WZ j j1 j2).trans (A2 j j1 j2)) (fun i => by rw [W.at 11, A3]) ?_
      obtain ⟨y1, y2, y3⟩ := sk_p (show sk t (sk t a + 1) + 1 ≤ t.length by omega)
      rcases alt with ⟨d1, d2, d3, d4⟩ | ⟨d1, d2, d3⟩
      · rw [if_pos (show _ ∧ _ from ⟨d1, d2⟩)]
        exact Or.inr ⟨_, _, rfl, by omega, by omega, d4, rfl, rfl, d3⟩
      · rw [if_neg d1]
        exact Or.inl ⟨_, rfl, y2, d2, d3⟩
    · have nle : ¬ (sk t (sk t a + 1) < t.length ∧ isLe (fm_bb t (sk t (sk t a + 1)))) := fun z => c1 ⟨z.1, z.2.1, z.2.2, fm_nne (by have := z.2.2; omega)⟩
      rw [if_neg nle] at fin
      rw [if_neg nle]
      have w17 : ω.1 0 17 = 1 := by rw [A4.at 0]; exact c3
      refine (fy_moreW w17 hn).mono ?_
      rintro ⟨v3, w⟩ ⟨W, WZ⟩
      simp only at W WZ
      refine fin w _ v3 (A1.tr W.up) (fun j j1 j2 => (WZ j).trans (A2 j j1 j2)) (fun i => by rw [W.at 11, A3]) (Or.inl ⟨_, rfl, u2, (c2.F A4).Z W WZ, by rw [WZ]; exact w17⟩)
  · -- a plain letter
    have b4' : yW ζ t (sk t a) := b4.F o11
    refine (fy_byte (but := -1) b4' wt (by omega) (by omega) (by omega) (by omega)).mono ?_
    rintro ⟨v, ξ⟩ ⟨X, XZ, alt⟩
    simp only at X XZ alt
    rw [sk_s ha] at alt
    simp only
    rw [fm_si (by omega) (by omega), fm_bs]
    obtain ⟨A1, A2, A3, A4⟩ := a2 ξ v X XZ
    generalize hω : fw_wr ξ 11 (3 * n + 1) v = ω at A1 A2 A3 A4
    rw [if_pos trivial, fm_bs]
    refine fin ω v 0 A1 A2 A3 ?_
    rcases alt with ⟨c1, c2, c3, c4, rfl, c5⟩ | ⟨c1, c2, c3⟩
    · have kz : kd (fm_bb t (sk t a)) = 0 := by rw [b1 c1, if_pos ⟨c2, c3⟩]
      rw [if_pos ⟨c1, by omega⟩, if_pos kz]
      exact Or.inr ⟨_, _, rfl, by omega, by omega, c5.F A4, rfl, rfl, rfl⟩
    · have nk : ¬ (sk t a < t.length ∧ kd (fm_bb t (sk t a)) < 4) := fun z => by
        have e := b1 z.1
        by_cases le : isLe (fm_bb t (sk t a))
        · exact c1 ⟨z.1, le.1, le.2, fm_nne (by have := le.2; omega)⟩
        · rw [if_neg le] at e; omega
      rw [if_neg nk]
      exact Or.inl ⟨_, rfl, s2, c2.F A4, by rw [A4.at 0]; exact c3⟩
