/-! the reference's loop over types -/
def yD (ν : fw_M) (T : List fm_Ty) (n : Nat) : Prop := ∀ i, i < n → ν.1 11 (3 * i) = nI (fm_tt T i).1 ∧ ν.1 11 (3 * i + 1) = nI (fm_tt T i).2.1 ∧ ν.1 11 (3 * i + 2) = nI (fm_tt T i).2.2
def yEnd2 (t : List Nat) (r0 : Nat ⊕ List fm_Ty) (T : List fm_Ty) (ν : fw_M) : Prop := (∃ a, a ≤ t.length ∧ yT ν t a ∧ ν.1 0 17 = 1 ∧ r0 = .inl a) ∨ (∃ a, a ≤ t.length ∧ yW ν t a ∧ r0 = if sk t a < t.length then .inl (sk t a) else .inr T)
theorem yD.e {ν ξ : fw_M} {T : List fm_Ty} {n : Nat} (h : yD ν T n) (e : ξ.1 11 = ν.1 11) : yD ξ T n := by unfold yD at *; rw [e]; exact h
theorem yD.add {μ ν : fw_M} {T : List fm_Ty} {ty : fm_Ty} (h : yD μ T T.length) (k : ∀ i, i < 3 * T.length → ν.1 11 i = μ.1 11 i) (a : ν.1 11 (3 * T.length) = nI ty.1) (b : ν.1 11 (3 * T.length + 1) = nI ty.2.1) (c : ν.1 11 (3 * T.length + 2) = nI ty.2.2) : yD ν (T ++ [ty]) (T.length + 1) := fun i hi => by
  by_cases e : i < T.length
  · rw [fm_tt_app e, k (3 * i) (by omega), k (3 * i + 1) (by omega), k (3 * i + 2) (by omega)]
    exact h i e
  · rw [show i = T.length by omega, fm_tt_last]
    exact ⟨a, b, c⟩
theorem fy_typesL {μ : fw_M} {t : List Nat} (h : yW μ t 0) (wt : wB t) : fm_T (fw_wh f_M_types_L14 fw_N (0, 1, μ)) (fun p => ∃ (n : Nat) (T : List fm_Ty), n ≤ 10 ∧ p.1 = nI n ∧ fm_F [0, 11] μ p.2 ∧ (∀ j, j ≠ 16 → j ≠ 17 → p.2.1 0 j = μ.1 0 j) ∧ (∀ T2, pca t (t.length + 1) 0 [] = .inr T2 → T2 = T ∧ n = T.length ∧ yD p.2 T n) ∧ yEnd2 t (pca t (t.length + 1) 0 []) T p.2) := by
  have h60 := wt.1
  generalize hr0 : pca t (t.length + 1) 0 [] = r0
  refine fm_wh (P := fun m st => ∃ (n : Nat) (T : List fm_Ty), n ≤ 10 ∧ st.1 = nI n ∧ fm_F [0, 11] μ st.2.2 ∧ (∀ j, j ≠ 16 → j ≠ 17 → st.2.2.1 0 j = μ.1 0 j) ∧ ((st.2.1 = 1 ∧ n < 10 ∧ n = T.length ∧ yD st.2.2 T n ∧ ∃ a k, a ≤ t.length ∧ m = t.length + 2 - a ∧ t.length < k + a ∧ yW st.2.2 t a ∧ pca t k a T = r0) ∨ (st.2.1 = 0 ∧ m = 0 ∧ (∀ T2, r0 = .inr T2 → T2 = T ∧ n = T.length ∧ yD st.2.2 T n) ∧ yEnd2 t r0 T st.2.2))) ?_ (i := t.length + 2) ⟨0, [], by omega, rfl, fm_F.rf, fun _ _ _ => rfl, Or.inl ⟨rfl, by omega, rfl, fun i hi => absurd hi (Nat.not_lt_zero _), 0, t.length + 1, Nat.zero_le _, rfl, by omega, h, hr0⟩⟩ (by omega)
  rintro m ⟨x1, x2, ν⟩ ⟨n, T, n10, e1, F, Z, cs⟩
  simp only at e1 F Z cs
  subst e1
  unfold f_M_types_L14
  try dsimp only
  rcases cs with ⟨e3, nlt, nl, rd, a, k, ha, rfl, hk, yw, pl⟩ | ⟨e3, rfl, fin, ye⟩
  · subst e3 nl
    obtain ⟨k', rfl⟩ : ∃ k', k = k' + 1 := ⟨k - 1, by omega⟩
    rw [pca] at pl
    rw [if_neg fm_n10, show (3 : Int32) * nI T.length = nI (3 * T.length) from pk_mul 3 _, fm_bind]
    refine (fy_clause yw wt ha nlt).mono ?_
    intro ξ ⟨G, GZ, G11, alt⟩
    have FX : fm_F [0, 11] μ ξ := F.tr G
    have ZX : ∀ j, j ≠ 16 → j ≠ 17 → ξ.1 0 j = μ.1 0 j := fun j j1 j2 => (GZ j j1 j2).trans (Z j j1 j2)
    rw [fm_nm, nI_1]
    rcases alt with ⟨e, q1, q2, q3, q4⟩ | ⟨b, ty, q1, q2, q3, q4, q5, q6, q7⟩
    · rw [q1] at pl
      simp only at pl
      have done : ∀ (o : fw_M), (∀ j, o.1 0 j = ξ.1 0 j) → fm_F [0] ξ o → fm_T (some (.inl (nI (T.length + 1), (0 : Int32), o)) : Option ((Int32 × Int32 × fw_M) ⊕ (Int32 × fw_M))) (fm_K (fun st => ∃ j, j < t.length + 2 - a ∧ ∃ (n : Nat) (T : List fm_Ty), n ≤ 10 ∧ st.1 = nI n ∧ fm_F [0, 11] μ st.2.2 ∧ (∀ j, j ≠ 16 → j ≠ 17 → st.2.2.1 0 j = μ.1 0 j) ∧ ((st.2.1 = 1 ∧ n < 10 ∧ n = T.length ∧ yD st.2.2 T n ∧ ∃ a k, a ≤ t.length ∧ j = t.length + 2 - a ∧ t.length < k + a ∧ yW st.2.2 t a ∧ pca t k a T = r0) ∨ (st.2.1 = 0 ∧ j = 0 ∧ (∀ T2, r0 = .inr T2 → T2 = T ∧ n = T.length ∧ yD st.2.2 T n) ∧ yEnd2 t r0 T st.2.2))) (fun p => ∃ (n : Nat) (T : List fm_Ty), n ≤ 10 ∧ p.1 = nI n ∧ fm_F [0, 11] μ p.2 ∧ (∀ j, j ≠ 16 → j ≠ 17 → p.2.1 0 j = μ.1 0 j) ∧ (∀ T2, r0 = .inr T2 → T2 = T ∧ n = T.length ∧ yD p.2 T n) ∧ yEnd2 t r0 T p.2)) := fun o oz O => by
        rw [fm_some, fm_Kl]
        exact ⟨0, by omega, T.length + 1, T, by omega, rfl, FX.tr O.up, fun j j1 j2 => by rw [oz]; exact ZX j j1 j2, Or.inr ⟨rfl, rfl, fun T2 hT2 => (by rw [← pl] at hT2; cases hT2), Or.inl ⟨e, q2, q3.Z O oz, by rw [oz]; exact q4, pl.symm⟩⟩⟩
      by_cases c10 : T.length + 1 < 10
      · rw [if_neg (fh_nge (c := 10) (b := 10) rfl c10 (by omega)), fm_bind, fm_bind]
        refine (fy_hasW q4).mono ?_
        rintro ⟨v2, o⟩ ⟨ev2, O, OZ⟩
        simp only at ev2 O OZ
        subst ev2
        simp only
        rw [if_pos trivial, fm_some]
        exact done o OZ O
      · rw [if_pos (show (10 : Int32) ≤ nI (T.length + 1) from (nI_leI (a := 10) (by omega) (by omega)).mpr (by omega)), fm_bs]
        exact done ξ (fun _ => rfl) fm_F.rf
    · rw [q1] at pl
      simp only at pl
      have rd2 : yD ξ (T ++ [ty]) (T.length + 1) := rd.add G11 q5 q6 q7
      have len2 : (T ++ [ty]).length = T.length + 1 := by rw [List.length_append, List.length_singleton]
      obtain ⟨s1, s2, s3⟩ := sk_p q3
      by_cases c10 : T.length + 1 < 10
      · rw [if_neg (fh_nge (c := 10) (b := 10) rfl c10 (by omega)), fm_bind, fm_bind, show (44 : Int32) = nI 44 from rfl]
        refine (fy_has q4 wt q3 (by omega) (by omega)).mono ?_
        rintro ⟨v2, o⟩ ⟨O, OZ, alt⟩
        simp only at O OZ alt
        have FO : fm_F [0, 11] μ o := FX.tr O.up
        have ZO : ∀ j, j ≠ 16 → j ≠ 17 → o.1 0 j = μ.1 0 j := fun j j1 j2 => (OZ j j1).trans (ZX j j1 j2)
        have rdo : yD o (T ++ [ty]) (T.length + 1) := rd2.e (O.at 11)
        rcases alt with ⟨p1, p2, rfl, p3⟩ | ⟨p1, rfl, p3⟩
        · rw [if_pos p1, if_pos ⟨p2, c10⟩] at pl
          simp only
          rw [if_neg fm_n10, fm_some, fm_some, fm_Kl]
          exact ⟨t.length + 2 - (sk t b + 1), by omega, T.length + 1, T ++ [ty], by omega, rfl, FO, ZO, Or.inl ⟨rfl, c10, len2.symm, rdo, sk t b + 1, k', by omega, rfl, by omega, p3, pl⟩⟩
        · simp only
          rw [if_pos trivial, fm_some, fm_some, fm_Kl]
          have pl2 : (if sk t b < t.length then .inl (sk t b) else .inr (T ++ [ty])) = r0 := by
            rw [← pl]
            by_cases en : sk t b < t.length
            · rw [if_pos en, if_pos en, if_neg (fun z => p1 ⟨en, z.1⟩)]
            · rw [if_neg en, if_neg en]
          refine ⟨0, by omega, T.length + 1, T ++ [ty], by omega, rfl, FO, ZO, Or.inr ⟨rfl, rfl, fun T2 hT2 => ?_, Or.inr ⟨sk t b, s2, p3, ?_⟩⟩⟩
          · rw [← pl2] at hT2
            by_cases en : sk t b < t.length
            · rw [if_pos en] at hT2; cases hT2
            · rw [if_neg en] at hT2
              have := Sum.inr.inj hT2
              exact ⟨this.symm, len2.symm, rdo⟩
          · rw [sk_s q3]; exact pl2.symm
      · rw [if_pos (show (10 : Int32) ≤ nI (T.length + 1) from (nI_leI (a := 10) (by omega) (by omega)).mpr (by omega)), fm_bs, fm_some, fm_Kl]
        have pl2 : (if sk t b < t.length then .inl (sk t b) else .inr (T ++ [ty])) = r0 := by
          rw [← pl]
          by_cases en : sk t b < t.length
          · rw [if_pos en, if_pos en, if_neg (fun z => c10 z.2)]
          · rw [if_neg en, if_neg en]
        refine ⟨0, by omega, T.length + 1, T ++ [ty], by omega, rfl, FX, ZX, Or.inr ⟨rfl, rfl, fun T2 hT2 => ?_, Or.inr ⟨b, q3, q4, pl2.symm⟩⟩⟩
        rw [← pl2] at hT2
        by_cases en : sk t b < t.length
        · rw [if_pos en] at hT2; cases hT2
        · rw [if_neg en] at hT2
          have := Sum.inr.inj hT2
          exact ⟨this.symm, len2.symm, rd2⟩
  · subst e3
    rw [if_pos rfl, fm_some, fm_Kr]
    exact ⟨n, T, n10, rfl, F, Z, fin, ye⟩
theorem fy_typesC {μ : fw_M} {e : Int32 × fw_M} {n : Nat} (he : e.1 = nI n) (hn : n ≤ 10) : fm_T (fw_wh (f_M_types_L102 e) fw_N (0, μ)) (fun ν => fm_F [1, 2, 3] μ ν ∧ ∀ i, i < n → ν.1 1 i = μ.1 11 (3 * i) ∧ ν.1 2 i = μ.1 11 (3 * i + 1) ∧ ν.1 3 i = μ.1 11 (3 * i + 2)) := by
  refine fm_up (P := fun i s => s.1 = nI i ∧ fm_F [1, 2, 3] μ s.2 ∧ ∀ j, j < i → s.2.1 1 j = μ.1 11 (3 * j) ∧ s.2.1 2 j = μ.1 11 (3 * j + 1) ∧ s.2.1 3 j = μ.1 11 (3 * j + 2)) n ?_ ?_ 0 (Nat.zero_le _) ⟨rfl, fm_F.rf, fun j hj => absurd hj (Nat.not_lt_zero _)⟩ (by omega)
  · rintro i ⟨x, ν⟩ hi ⟨e1, F, a1⟩
    simp only at e1 F a1
    subst e1
    unfold f_M_types_L102
    try dsimp only
    rw [he, if_neg (nI_ge hi (by omega)), show (3 : Int32) * nI i = nI (3 * i) from pk_mul 3 _, fm_rd (by omega) (by omega), fm_bs, nI_1, fm_rd (by omega) (by omega), fm_bs, show nI (3 * i) + 2 = nI (3 * i + 2) from nI_add _ 2, fm_rd (by omega) (by omega), fm_bs, fy_comes (by omega), fm_bs, fm_nm, fm_some, fm_Kl]
    refine ⟨nI_1 i, ((F.wr).wr).wr, fun j hj => ?_⟩
    by_cases q : j = i
    · subst q
      refine ⟨?_, ?_, ?_⟩
      · rw [fm_wrn (by decide), fm_wrn (by decide), fm_wr, if_pos ⟨rfl, rfl⟩, F.at 11]
      · rw [fm_wrn (by decide), fm_wr, if_pos ⟨rfl, rfl⟩, F.at 11]
      · rw [fm_wr, if_pos ⟨rfl, rfl⟩, F.at 11]
    · obtain ⟨b1, b2, b3⟩ := a1 j (by omega)
      refine ⟨?_, ?_, ?_⟩
      · rw [fm_wrn (by decide), fm_wrn (by decide), fm_wr, if_neg (fun z => q z.2)]; exact b1
      · rw [fm_wrn (by decide), fm_wr, if_neg (fun z => q z.2), fm_wrn (by decide)]; exact b2
      · rw [fm_wr, if_neg (fun z => q z.2), fm_wrn (by decide), fm_wrn (by decide)]; exact b3
  · rintro ⟨x, ν⟩ ⟨e1, F, a1⟩
    simp only at e1 F a1
    subst e1
    unfold f_M_types_L102
    try dsimp only
    rw [he, if_pos (nI_le (Nat.le_refl _) (by omega)), fm_some, fm_Kr]
    exact ⟨F, a1⟩
theorem fy_types {μ : fw_M} {t : List Nat} (h : rB (μ.1 0 15) (μ.1 10) t) (wt : wB t) : fm_T (f_M_types μ) (fun p => fm_F [0, 1, 2, 3, 11] μ p.2 ∧ p.2.1 0 15 = 0 ∧ (∀ j, j ≠ 0 → j ≠ 15 → j ≠ 16 → j ≠ 17 → p.2.1 0 j = μ.1 0 j) ∧ ((∃ e, pca t (t.length + 1) 0 [] = .inl e ∧ p.1 = -20 - nI e ∧ p.2.1 0 0 = μ.1 0 0 ∧ p.2.1 1 = μ.1 1 ∧ p.2.1 2 = μ.1 2 ∧ p.2.1 3 = μ.1 3) ∨ (∃ T, pca t (t.length + 1) 0 [] = .inr T ∧ p.1 = nI T.length ∧ rT (p.2.1 0 0) (p.2.1 1) (p.2.1 2) (p.2.1 3) T))) := by
  have h60 := wt.1
  unfold f_M_types
  rw [fm_nm, fm_nm]
  generalize hμ1 : fw_wr (fw_wr μ 0 16 0) 0 17 0 = μ1
  have F1 : fm_F [0] μ μ1 := by rw [← hμ1]; exact (fm_F.rf.wr).wr
  have Z1 : ∀ j, j ≠ 16 → j ≠ 17 → μ1.1 0 j = μ.1 0 j := fun j j1 j2 => by rw [← hμ1, fm_wr, if_neg (fun z => j2 z.2), fm_wr, if_neg (fun z => j1 z.2)]
  have y1 : yW μ1 t 0 := ⟨⟨⟨(Z1 15 (by decide) (by decide)).trans h.1, fun i hi => by rw [F1.at 10]; exact h.2 i hi⟩, by rw [← hμ1, fm_wr, if_neg (by decide), fm_wr, if_pos ⟨rfl, rfl⟩]; rfl⟩, by rw [← hμ1, fm_wr, if_pos ⟨rfl, rfl⟩]⟩
  rw [fm_bind]
  refine (fy_typesL y1 wt).mono ?_
  rintro ⟨x1, ν⟩ ⟨n, T, n10, e1, F, Z, hL, ye⟩
  simp only at e1 F Z hL ye
  subst e1
  simp only
  generalize hr0 : pca t (t.length + 1) 0 [] = r0 at hL ye ⊢
  have FX : fm_F [0, 11] μ ν := (F1.up).tr F
  have ZX : ∀ j, j ≠ 16 → j ≠ 17 → ν.1 0 j = μ.1 0 j := fun j j1 j2 => (Z j j1 j2).trans (Z1 j j1 j2)
  -- the end of a fault
  have bad : ∀ (o : fw_M) (a : Nat), fm_F [0, 11] μ o → (∀ j, j ≠ 16 → j ≠ 17 → o.1 0 j = μ.1 0 j) → o.1 0 16 = nI a → r0 = .inl a → fm_T ((fw_bz 1).bind fun b72 => fw_nm (fw_wr o 0 17 b72) fun (μ72 : fw_M) => fw_nm (fw_wr μ72 0 15 0) fun (μ77 : fw_M) => if (μ77.1 0 17) = 0 then fw_nm (fw_wr μ77 0 0 (nI n)) fun (μ97 : fw_M) => (fw_wh (f_M_types_L102 (nI n, ν)) fw_N (0, μ97)).bind fun (e102x : fw_M) => some (nI n, e102x) else some (((-20) - (μ77.1 0 16)), μ77)) (fun p => fm_F [0, 1, 2, 3, 11] μ p.2 ∧ p.2.1 0 15 = 0 ∧ (∀ j, j ≠ 0 → j ≠ 15 → j ≠ 16 → j ≠ 17 → p.2.1 0 j = μ.1 0 j) ∧ ((∃ e, r0 = .inl e ∧ p.1 = -20 - nI e ∧ p.2.1 0 0 = μ.1 0 0 ∧ p.2.1 1 = μ.1 1 ∧ p.2.1 2 = μ.1 2 ∧ p.2.1 3 = μ.1 3) ∨ (∃ T, r0 = .inr T ∧ p.1 = nI T.length ∧ rT (p.2.1 0 0) (p.2.1 1) (p.2.1 2) (p.2.1 3) T))) := fun o a O OZ oa hr => by
    have ev : (fw_wr (fw_wr o 0 17 1) 0 15 0).1 0 17 = 1 := by rw [fm_wr, if_neg (by decide), fm_wr, if_pos ⟨rfl, rfl⟩]
    have ea : (fw_wr (fw_wr o 0 17 1) 0 15 0).1 0 16 = nI a := by rw [fm_wr, if_neg (by decide), fm_wr, if_neg (by decide)]; exact oa
    have ez : ∀ j, j ≠ 15 → j ≠ 16 → j ≠ 17 → (fw_wr (fw_wr o 0 17 1) 0 15 0).1 0 j = μ.1 0 j := fun j j1 j2 j3 => by rw [fm_wr, if_neg (fun z => j1 z.2), fm_wr, if_neg (fun z => j3 z.2)]; exact OZ j j2 j3
    have O2 : fm_F [0, 11] μ (fw_wr (fw_wr o 0 17 1) 0 15 0) := (O.wr).wr
    rw [fm_bz1, fm_bs, fm_nm, fm_nm, ev, if_neg fm_n10, fm_some, ea]
    exact ⟨O2.up, by rw [fm_wr, if_pos ⟨rfl, rfl⟩], fun j _ j3 j4 j5 => ez j j3 j4 j5, Or.inl ⟨a, hr, rfl, ez 0 (by decide) (by decide) (by decide), O2.at 1, O2.at 2, O2.at 3⟩⟩
  rcases ye with ⟨a, ha, yt, y17, hr⟩ | ⟨a, ha, yw, hr⟩
  · rw [y17, if_neg fm_n10, fm_bs]
    exact bad ν a FX ZX yt.2 hr
  · rw [yw.2, if_pos rfl, fm_bind, fm_bind]
    refine (fy_here yw.1 wt ha).mono ?_
    rintro ⟨v, o⟩ ⟨ev, O, OZ, yo⟩
    simp only at ev O OZ yo
    subst ev
    have FO : fm_F [0, 11] μ o := FX.tr O.up
    have ZO : ∀ j, j ≠ 16 → j ≠ 17 → o.1 0 j = μ.1 0 j := fun j j1 j2 => (OZ j j1).trans (ZX j j1 j2)
    by_cases en : sk t a < t.length
    · rw [if_pos en] at hr
      obtain ⟨c1, c2⟩ := wt.2 _ en
      simp only [en, if_true]
      rw [if_neg (nI_ne0 (by omega) (by omega)), fm_some]
      exact bad o (sk t a) FO ZO yo.2 hr
    · rw [if_neg en] at hr
      obtain ⟨_, nl, rd⟩ := hL T hr
      simp only [en, if_false]
      rw [if_pos trivial, fm_some, fm_bz0, fm_bs, fm_nm, fm_nm]
      have ev : (fw_wr (fw_wr o 0 17 0) 0 15 0).1 0 17 = 0 := by rw [fm_wr, if_neg (by decide), fm_wr, if_pos ⟨rfl, rfl⟩]
      rw [ev, if_pos rfl, fm_nm, fm_bind]
      generalize hw : fw_wr (fw_wr (fw_wr o 0 17 0) 0 15 0) 0 0 (nI n) = w
      have FW : fm_F [0, 11] μ w := by rw [← hw]; exact ((FO.wr).wr).wr
      have w11 : w.1 11 = ν.1 11 := by rw [← hw, fm_wrn (by decide), fm_wrn (by decide), fm_wrn (by decide), O.at 11]
      have wz : ∀ j, j ≠ 0 → j ≠ 15 → j ≠ 16 → j ≠ 17 → w.1 0 j = μ.1 0 j := fun j j1 j3 j4 j5 => by
        rw [← hw, fm_wr, if_neg (fun z => j1 z.2), fm_wr, if_neg (fun z => j3 z.2), fm_wr, if_neg (fun z => j5 z.2)]
        exact ZO j j4 j5
      have w15 : w.1 0 15 = 0 := by rw [← hw, fm_wr, if_neg (by decide), fm_wr, if_pos ⟨rfl, rfl⟩]
      have w0 : w.1 0 0 = nI n := by rw [← hw, fm_wr, if_pos ⟨rfl, rfl⟩]
      refine (fy_typesC (e := (nI n, ν)) rfl n10).mono ?_
      intro z ⟨H, zr⟩
      rw [fm_some]
      have FW2 : fm_F [0, 1, 2, 3, 11] μ w := FW.up
      refine ⟨FW2.tr H.up, by rw [H.at 0]; exact w15, fun j j1 j3 j4 j5 => by rw [H.at 0]; exact wz j j1 j3 j4 j5, Or.inr ⟨T, hr, by rw [nl], ⟨by rw [H.at 0, w0, nl], fun i hi => ?_⟩⟩⟩
      obtain ⟨z1, z2, z3⟩ := zr i (by omega)
      rw [z1, z2, z3, w11]
      exact rd i (by omega)
theorem fx_ct_77 {μ : fw_M} {T : List fm_Ty} (wt : wT T) (h : xC μ T) : fm_T (f_Case_take_2_77 μ) (fun ν => fm_F [2, 3, 4, 5] μ ν ∧ rT (ν.1 2 3) (ν.1 3) (ν.1 4) (ν.1 5) T) := by
  have h10 := wt.1
  unfold xC at h
  unfold f_Case_take_2_77
  rw [show (10 : Int32) = nI 10 from rfl, fm_cpz (n := 10) (Nat.le_refl _) (Nat.le_refl _) (by omega) (by omega), fm_bs, fm_cpz (n := 10) (Nat.le_refl _) (Nat.le_refl _) (by omega) (by omega), fm_bs, fm_cpz (n := 10) (Nat.le_refl _) (Nat.le_refl _) (by omega) (by omega), fm_bs, fm_nm, fm_some]
  refine ⟨(((fm_F.rf.wc).wc).wc).wr, ?_, fun i hi => ⟨?_, ?_, ?_⟩⟩
  · rw [fm_wr, if_pos ⟨rfl, rfl⟩, fm_wcn (by decide), fm_wcn (by decide), fm_wcn (by decide)]; exact h.1
  · rw [fm_wrn (by decide), fm_wcn (by decide), fm_wcn (by decide), fm_wcs, fm_cpy0 (by omega)]; exact (h.2 i hi).1
  · rw [fm_wrn (by decide), fm_wcn (by decide), fm_wcs, fm_cpy0 (by omega), fm_wcn (by decide)]; exact (h.2 i hi).2.1
  · rw [fm_wrn (by decide), fm_wcs, fm_cpy0 (by omega), fm_wcn (by decide), fm_wcn (by decide)]; exact (h.2 i hi).2.2
theorem fo_types : fw_O_types fm_I := by
  intro n μx μm hn hI
  obtain ⟨⟨C, wc, xs, ms, kp⟩, im, ⟨t, wt, tx, tm⟩, sh, rk⟩ := hI
  have h60 := wt.1
  unfold f_X_types
  obtain ⟨⟨r, νx⟩, ex, F, Z, alt⟩ := fx_rcase tx wt
  obtain ⟨⟨r2, νm⟩, em, G, z15, GZ, alt2⟩ := fy_types tm wt
  simp only at F Z alt G z15 GZ alt2
  rw [ex, fm_bs, fm_nmE]
  simp only
  have nil : ∀ {p : Nat → Prop} (i : Nat), i < 0 → p i := fun i hi => absurd hi (Nat.not_lt_zero _)
  have tape : ∀ (o : fw_M), o.1 63 1 = 0 → fm_tape o νm := fun o ho => ⟨[], ⟨by decide, nil⟩, ⟨ho, nil⟩, ⟨z15, nil⟩⟩
  have gz : ∀ j, j ≠ 0 → j < 15 → νm.1 0 j = μm.1 0 j := fun j j1 j2 => GZ j j1 (by omega) (by omega) (by omega)
  have g21 := GZ 21 (by decide) (by decide) (by decide) (by decide)
  have g32 := GZ 32 (by decide) (by decide) (by decide) (by decide)
  rcases alt with ⟨e, e1, e2, rfl⟩ | ⟨T, e1, rfl, n1, wT2, xc⟩
  · rcases alt2 with ⟨e3, f1, rfl, f2, f3, f4, f5⟩ | ⟨L2, f1, _⟩
    · rw [e1] at f1
      have := Sum.inl.inj f1
      subst this
      have neg : (-20 : Int32) - nI e ≤ 0 := by
        rw [Int32.le_iff_toInt_le]
        have : ((-20 : Int32) - nI e).toInt = -20 - (e : Int) := by
          have h1 : (-20 : Int32) = nI 0 - nI 20 := rfl
          rw [h1, fi_sub, pk_sub_toInt (by omega) (by omega)]
          omega
        rw [this, show (0 : Int32).toInt = 0 from rfl]
        omega
      rw [if_pos neg, fm_bs]
      refine ⟨_, _, _, rfl, em, ?_⟩
      have FF : fm_F [63, 77, 78, 79, 80] μx (fw_wr νx 63 1 0) := F.wr
      refine ⟨⟨C, wc, xs.cong (FF.rg 1 31) wc.2.2.2.2.1.1, ?_, kp.cong (FF.at 81) (FF.at 82)⟩, im.cong (FF.at 0) (FF.rg 32 62) g32 (G.at 23), tape _ (by rw [fm_wr, if_pos ⟨rfl, rfl⟩]), fm_sheets sh (FF.rg 86 93) (G.at 24) (G.at 25) (G.at 26), rk.st G g21⟩
      refine ms.cong f2 (gz 6 (by decide) (by decide)) (gz 8 (by decide) (by decide)) (gz 9 (by decide) (by decide)) (gz 11 (by decide) (by decide)) (fun k k1 k2 => ?_)
      by_cases q : k = 1
      · rw [q]; exact f3
      by_cases q : k = 2
      · rw [q]; exact f4
      by_cases q : k = 3
      · rw [q]; exact f5
      exact G k (by simp; omega)
    · rw [e1] at f1; cases f1
  · rcases alt2 with ⟨e3, f1, _⟩ | ⟨L2, f1, rfl, f2⟩
    · rw [e1] at f1; cases f1
    · rw [e1] at f1
      have := Sum.inr.inj f1
      subst this
      have l10 := wT2.1
      rw [if_neg (nI_nle (by omega) (by omega))]
      obtain ⟨o, eo, O, o2⟩ := fx_ct_77 (μ := fw_wr νx 63 1 0) wT2 (xc.F (l := [63]) fm_F.rf.wr)
      obtain ⟨w, ew, W, w2⟩ := fh_forget (μ := o)
      rw [eo, fm_bs, ew, fm_bs, fm_bs]
      have F0 : fm_F [2, 3, 4, 5, 63, 77, 78, 79, 80, 81] μx νx := F.up
      have FF : fm_F [2, 3, 4, 5, 63, 77, 78, 79, 80, 81] μx w := ((F0.wr).tr O.up).tr W.up
      have w63 : w.1 63 1 = 0 := by rw [W.at 63, O.at 63, fm_wr, if_pos ⟨rfl, rfl⟩]
      refine ⟨_, _, _, rfl, em, ?_⟩
      refine ⟨⟨(T, C.2), ⟨wT2, wc.2⟩, xs.T (FF.at 1) (FF.rg 6 31) (by rw [W.at 2, W.at 3, W.at 4, W.at 5]; exact o2) wc.2.2.2.2.1.1, ms.T (gz 6 (by decide) (by decide)) (gz 8 (by decide) (by decide)) (gz 9 (by decide) (by decide)) (gz 11 (by decide) (by decide)) (G.rg 4 9) f2, ?_⟩, im.cong (FF.at 0) (FF.rg 32 62) g32 (G.at 23), tape _ w63, fm_sheets sh (FF.rg 86 93) (G.at 24) (G.at 25) (G.at 26), rk.st G g21⟩
      have h8 := wc.2.2.2.2.1.1
      exact ⟨fun k hk => Or.inl (w2 k (by have hk2 : k < C.2.2.2.2.1.length := hk; omega)), Or.inl (w2 8 (by omega))⟩
