/-! a case from the tape: the class -/
theorem fx_rcase {μ : fw_M} {t : List Nat} (h : rB (μ.1 63 1) (μ.1 64) t) (wt : wB t) : fm_T (f_Tape_readCase μ) (fun p => fm_F [63, 77, 78, 79, 80] μ p.2 ∧ (∀ j, j ≠ 2 → p.2.1 63 j = μ.1 63 j) ∧ ((∃ e, pca t (t.length + 1) 0 [] = .inl e ∧ e ≤ t.length ∧ p.1 = -20 - nI e) ∨ (∃ T, pca t (t.length + 1) 0 [] = .inr T ∧ p.1 = nI T.length ∧ 1 ≤ T.length ∧ wT T ∧ xC p.2 T))) := by
  have h60 := wt.1
  unfold f_Tape_readCase
  rw [fm_nm, fm_nm, fm_bind]
  generalize hμ1 : fw_wr (fw_wr μ 63 2 0) 77 3 0 = μ1
  have F1 : fm_F [63, 77, 78, 79, 80] μ μ1 := by rw [← hμ1]; exact (fm_F.rf.wr).wr
  have Z1 : ∀ j, j ≠ 2 → μ1.1 63 j = μ.1 63 j := fun j hj => by rw [← hμ1, fm_wrn (by decide), fm_wr, if_neg (fun z => hj z.2)]
  have x1 : xT μ1 t 0 := ⟨⟨(Z1 1 (by decide)).trans h.1, fun i hi => by rw [F1.at 64]; exact h.2 i hi⟩, by rw [← hμ1, fm_wrn (by decide), fm_wr, if_pos ⟨rfl, rfl⟩]; rfl⟩
  have l1 : xC μ1 [] := ⟨by rw [← hμ1, fm_wr, if_pos ⟨rfl, rfl⟩]; rfl, fun i hi => absurd hi (Nat.not_lt_zero _)⟩
  generalize hr0 : pca t (t.length + 1) 0 [] = r0
  refine fm_wh (P := fun m st => ∃ (a i k : Nat) (T : List fm_Ty), i ≤ a ∧ a ≤ t.length ∧ m = t.length + 1 - a ∧ t.length < k + a ∧ st.1 = nI i ∧ fm_F [63, 77, 78, 79, 80] μ st.2 ∧ (∀ j, j ≠ 2 → st.2.1 63 j = μ.1 63 j) ∧ xT st.2 t a ∧ xC st.2 T ∧ wT T ∧ T.length < 10 ∧ pca t k a T = r0) ?_ (i := t.length + 1) ⟨0, 0, t.length + 1, [], Nat.le_refl _, Nat.zero_le _, rfl, by omega, rfl, F1, Z1, x1, l1, ⟨by decide, fun i hi => absurd hi (Nat.not_lt_zero _)⟩, by decide, hr0⟩ (by omega)
  rintro m ⟨ii, ν⟩ ⟨a, i, k, T, hia, ha, rfl, hk, e1, F, Z, xt, xc, wT0, T10, pc⟩
  simp only at e1 F Z xt xc
  subst e1
  obtain ⟨k', rfl⟩ : ∃ k', k = k' + 1 := ⟨k - 1, by omega⟩
  rw [pca] at pc
  unfold f_Tape_readCase_L12
  try dsimp only
  rw [(Z 1 (by decide)).trans h.1, if_neg (nI_nlt (show i ≤ t.length by omega) (by omega)), fm_bind]
  refine (fx_rtype xt wt ha xc T10).mono ?_
  rintro ⟨sg, ξ⟩ ⟨G, GZ, alt⟩
  simp only at G GZ alt
  have FX : fm_F [63, 77, 78, 79, 80] μ ξ := F.tr G
  have ZX : ∀ j, j ≠ 2 → ξ.1 63 j = μ.1 63 j := fun j hj => (GZ j hj).trans (Z j hj)
  rcases alt with ⟨e, q1, q2, rfl, q3⟩ | ⟨b, ty, q1, q2, q3, q4, rfl, q5, q6⟩
  · rw [q1] at pc
    simp only at pc
    rw [if_pos rfl]
    unfold f_Tape_fault
    rw [q3.2, fm_bs, fm_some, fm_Kr, fm_some]
    exact ⟨FX, ZX, Or.inl ⟨e, pc.symm, q2, rfl⟩⟩
  · rw [q1] at pc
    simp only at pc
    rw [if_neg fm_n10, fm_bind]
    refine (fx_next q5 wt q3).mono ?_
    rintro ⟨sg, o⟩ ⟨es, O, OZ, xo⟩
    simp only at es O OZ xo
    subst es
    obtain ⟨s1, s2, s3⟩ := sk_p q3
    have FO : fm_F [63, 77, 78, 79, 80] μ o := FX.tr O.up
    have ZO : ∀ j, j ≠ 2 → o.1 63 j = μ.1 63 j := fun j hj => (OZ j hj).trans (ZX j hj)
    have xo2 : xC o (T ++ [ty]) := q6.F O
    have len2 : (T ++ [ty]).length = T.length + 1 := by rw [List.length_append, List.length_singleton]
    have o3 : o.1 77 3 = nI (T.length + 1) := by rw [← len2]; exact xo2.1
    have wt2 : wT (T ++ [ty]) := wT0.add T10 q4
    simp only
    by_cases en : sk t b < t.length
    · obtain ⟨c1, c2⟩ := wt.2 _ en
      rw [if_pos en] at pc
      rw [if_pos en, if_neg (fm_nne (by omega))]
      by_cases c44 : fm_bb t (sk t b) = 44
      · rw [c44, if_pos (show nI 44 = 44 from rfl), o3]
        by_cases l9 : T.length + 1 < 10
        · rw [if_pos ⟨c44, l9⟩] at pc
          rw [if_pos (fh_lt (c := 10) (b := 10) rfl l9 (by omega)), fm_nm, fm_nm, fm_some, fm_Kl]
          refine ⟨t.length + 1 - (sk t b + 1), by omega, sk t b + 1, i + 1, k', T ++ [ty], by omega, by omega, rfl, by omega, nI_1 i, FO.wr, fun j hj => by rw [fm_wr, if_neg (fun z => hj z.2)]; exact ZO j hj, xo.nx, ?_, wt2, by rw [len2]; exact l9, pc⟩
          exact xo2.F (l := [63]) fm_F.rf.wr
        · rw [if_neg (fun z => l9 z.2)] at pc
          rw [if_neg (show ¬ nI (T.length + 1) < 10 from fun z => l9 ((nI_ltI (b := 10) (by omega) (by omega)).mp z))]
          unfold f_Tape_fault
          rw [xo.2, fm_bs, fm_some, fm_Kr, fm_some]
          exact ⟨FO, ZO, Or.inl ⟨_, pc.symm, s2, rfl⟩⟩
      · rw [if_neg (fun z => c44 z.1)] at pc
        rw [if_neg (show ¬ nI (fm_bb t (sk t b)) = 44 from fun z => c44 ((nI_eq (b := 44) (by omega) (by omega)).mp z))]
        unfold f_Tape_fault
        rw [xo.2, fm_bs, fm_some, fm_Kr, fm_some]
        exact ⟨FO, ZO, Or.inl ⟨_, pc.symm, s2, rfl⟩⟩
    · rw [if_neg en] at pc
      rw [if_neg en, if_pos rfl, fm_some, fm_Kr, fm_some, o3]
      exact ⟨FO, ZO, Or.inr ⟨_, pc.symm, by rw [len2], by rw [len2]; omega, wt2, xo2⟩⟩
/-! the reference -/
theorem fy_kind {μ : fw_M} {t : List Nat} {a : Nat} (h : yW μ t a) (wt : wB t) (ha : a ≤ t.length) : fm_T ((f_M_has 116 μ).bind fun (p3 : Int32 × fw_M) => if p3.1 = 0 then (f_M_has 110 p3.2).bind fun (p16 : Int32 × fw_M) => if p16.1 = 0 then (f_M_has 109 p16.2).bind fun (p29 : Int32 × fw_M) => if p29.1 = 0 then some (0, p29.2) else some (3, p29.2) else some (2, p16.2) else some (1, p3.2)) (fun p => fm_F [0] μ p.2 ∧ (∀ j, j ≠ 16 → p.2.1 0 j = μ.1 0 j) ∧ ((sk t a < t.length ∧ 1 ≤ kd (fm_bb t (sk t a)) ∧ kd (fm_bb t (sk t a)) ≤ 3 ∧ p.1 = nI (kd (fm_bb t (sk t a))) ∧ yW p.2 t (sk t a + 1)) ∨ ((sk t a < t.length → kd (fm_bb t (sk t a)) = if isLe (fm_bb t (sk t a)) then 0 else 4) ∧ p.1 = 0 ∧ yW p.2 t (sk t a)))) := by
  obtain ⟨s1, s2, s3⟩ := sk_p ha
  rw [show (116 : Int32) = nI 116 from rfl, show (110 : Int32) = nI 110 from rfl, show (109 : Int32) = nI 109 from rfl, fm_bind]
  refine (fy_has h wt ha (by omega) (by omega)).mono ?_
  rintro ⟨v, ν⟩ ⟨F, Z, alt⟩
  simp only at F Z alt
  rcases alt with ⟨a1, a2, rfl, a3⟩ | ⟨a1, rfl, a3⟩
  · simp only
    rw [if_neg fm_n10, fm_some]
    exact ⟨F, Z, Or.inl ⟨a1, by rw [a2]; decide, by rw [a2]; decide, by rw [a2]; rfl, a3⟩⟩
  simp only
  rw [if_pos trivial, fm_bind]
  refine (fy_has a3 wt s2 (by omega) (by omega)).mono ?_
  rintro ⟨v, ν2⟩ ⟨F2, Z2, alt⟩
  simp only at F2 Z2 alt
  rw [sk_s ha] at alt
  rcases alt with ⟨b1, b2, rfl, b3⟩ | ⟨b1, rfl, b3⟩
  · simp only
    rw [if_neg fm_n10, fm_some]
    exact ⟨F.tr F2, fun j hj => (Z2 j hj).trans (Z j hj), Or.inl ⟨b1, by rw [b2]; decide, by rw [b2]; decide, by rw [b2]; rfl, b3⟩⟩
  simp only
  rw [if_pos trivial, fm_bind]
  refine (fy_has b3 wt s2 (by omega) (by omega)).mono ?_
  rintro ⟨v, ν3⟩ ⟨F3, Z3, alt⟩
  simp only at F3 Z3 alt
  rw [sk_s ha] at alt
  rcases alt with ⟨c1, c2, rfl, c3⟩ | ⟨c1, rfl, c3⟩
  · simp only
    rw [if_neg fm_n10, fm_some]
    exact ⟨(F.tr F2).tr F3, fun j hj => (Z3 j hj).trans ((Z2 j hj).trans (Z j hj)), Or.inl ⟨c1, by rw [c2]; decide, by rw [c2]; decide, by rw [c2]; rfl, c3⟩⟩
  · simp only
    rw [if_pos trivial, fm_some]
    refine ⟨(F.tr F2).tr F3, fun j hj => (Z3 j hj).trans ((Z2 j hj).trans (Z j hj)), Or.inr ⟨fun en => ?_, rfl, c3⟩⟩
    unfold kd
    rw [if_neg (fun z => c1 ⟨en, z⟩), if_neg (fun z => b1 ⟨en, z⟩), if_neg (fun z => a1 ⟨en, z⟩)]
theorem fy_more {μ : fw_M} {t : List Nat} {b k l n : Nat} (h : yW μ t b) (wt : wB t) (hb : b ≤ t.length) (k1 : 1 ≤ k) (k3 : k ≤ 3) (hn : n < 10) (hl : l < 12) (h11 : k = 1 → μ.1 11 (3 * n + 1) = nI l) : fm_T (if nI k = 0 then some (0, μ) else if nI k = 3 then (f_M_byteOf 49 57 (-1) μ).bind fun (p92 : Int32 × fw_M) => some ((1 + p92.1), p92.2) else Option.bind (if nI k = 1 then (fw_rd 30 (μ.1 11) (nI (3 * n + 1))).bind fun v116 => some v116 else some (-1)) fun (j106 : Int32) => (f_M_byteOf 97 108 j106 μ).bind fun (p121 : Int32 × fw_M) => some (p121.1, p121.2)) (fun p => fm_F [0] μ p.2 ∧ (∀ j, j ≠ 16 → j ≠ 17 → p.2.1 0 j = μ.1 0 j) ∧ ((sk t b < t.length ∧ mo k l (fm_bb t (sk t b)) ∧ p.1 = nI (mv k (fm_bb t (sk t b))) ∧ yW p.2 t (sk t b + 1)) ∨ (¬ (sk t b < t.length ∧ mo k l (fm_bb t (sk t b))) ∧ yT p.2 t (sk t b) ∧ p.2.1 0 17 = 1))) := by
  rw [show (49 : Int32) = nI 49 from rfl, show (57 : Int32) = nI 57 from rfl, show (97 : Int32) = nI 97 from rfl, show (108 : Int32) = nI 108 from rfl]
  have hk : k = 1 ∨ k = 2 ∨ k = 3 := by omega
  rcases hk with rfl | rfl | rfl
  · rw [if_neg (show ¬ nI 1 = 0 by decide), if_neg (show ¬ nI 1 = 3 by decide), if_pos (show nI 1 = 1 from rfl), fm_rd (by omega) (by omega), fm_bs, fm_bs, h11 rfl, fm_bind]
    refine (fy_byte (but := nI l) h wt hb (by omega) (by omega) (by omega)).mono ?_
    rintro ⟨v, ν⟩ ⟨F, Z, alt⟩
    simp only at F Z alt
    rw [fm_some]
    refine ⟨F, Z, ?_⟩
    rcases alt with ⟨a1, a2, a3, a4, rfl, a5⟩ | ⟨a1, a2, a3⟩
    · exact Or.inl ⟨a1, Or.inl ⟨rfl, ⟨a2, a3⟩, fun z => a4 (by rw [z])⟩, rfl, a5⟩
    · refine Or.inr ⟨fun z => a1 ?_, a2, a3⟩
      rcases z.2 with ⟨_, w1, w2⟩ | ⟨w, _⟩ | ⟨w, _⟩
      · refine ⟨z.1, w1.1, w1.2, fun y => w2 ?_⟩
        have := w1.2
        exact (nI_eq (by omega) (by omega)).mp y
      · omega
      · omega
  · rw [if_neg (show ¬ nI 2 = 0 by decide), if_neg (show ¬ nI 2 = 3 by decide), if_neg (show ¬ nI 2 = 1 by decide), fm_bs, fm_bind]
    refine (fy_byte (but := -1) h wt hb (by omega) (by omega) (by omega)).mono ?_
    rintro ⟨v, ν⟩ ⟨F, Z, alt⟩
    simp only at F Z alt
    rw [fm_some]
    refine ⟨F, Z, ?_⟩
    rcases alt with ⟨a1, a2, a3, a4, rfl, a5⟩ | ⟨a1, a2, a3⟩
    · exact Or.inl ⟨a1, Or.inr (Or.inl ⟨rfl, a2, a3⟩), rfl, a5⟩
    · refine Or.inr ⟨fun z => a1 ?_, a2, a3⟩
      rcases z.2 with ⟨w, _⟩ | ⟨_, w1⟩ | ⟨w, _⟩
      · omega
      · exact ⟨z.1, w1.1, w1.2, fm_nne (by have := w1.2; omega)⟩
      · omega
  · rw [if_neg (show ¬ nI 3 = 0 by decide), if_pos (show nI 3 = 3 from rfl), fm_bind]
    refine (fy_byte (but := -1) h wt hb (by omega) (by omega) (by omega)).mono ?_
    rintro ⟨v, ν⟩ ⟨F, Z, alt⟩
    simp only at F Z alt
    rw [fm_some]
    refine ⟨F, Z, ?_⟩
    rcases alt with ⟨a1, a2, a3, a4, rfl, a5⟩ | ⟨a1, a2, a3⟩
    · refine Or.inl ⟨a1, Or.inr (Or.inr ⟨rfl, a2, a3⟩), ?_, a5⟩
      show 1 + nI (fm_bb t (sk t b) - 49) = nI (fm_bb t (sk t b) - 48)
      rw [show (1 : Int32) = nI 1 from rfl, nI_add]
      congr 1
      omega
    · refine Or.inr ⟨fun z => a1 ?_, a2, a3⟩
      rcases z.2 with ⟨w, _⟩ | ⟨w, _⟩ | ⟨_, w1⟩
      · omega
      · omega
      · exact ⟨z.1, w1.1, w1.2, fm_nne (by have := w1.2; omega)⟩
theorem fy_moreW {μ : fw_M} {k : Int32} {n : Nat} (h : μ.1 0 17 = 1) (hn : n < 10) : fm_T (if k = 0 then some (0, μ) else if k = 3 then (f_M_byteOf 49 57 (-1) μ).bind fun (p92 : Int32 × fw_M) => some ((1 + p92.1), p92.2) else Option.bind (if k = 1 then (fw_rd 30 (μ.1 11) (nI (3 * n + 1))).bind fun v116 => some v116 else some (-1)) fun (j106 : Int32) => (f_M_byteOf 97 108 j106 μ).bind fun (p121 : Int32 × fw_M) => some (p121.1, p121.2)) (fun p => fm_F [0] μ p.2 ∧ ∀ j, p.2.1 0 j = μ.1 0 j) := by
  by_cases k0 : k = 0
  · rw [if_pos k0, fm_some]; exact ⟨fm_F.rf, fun _ => rfl⟩
  rw [if_neg k0]
  by_cases k3 : k = 3
  · rw [if_pos k3, fm_bind]
    refine (fy_byteW h).mono ?_
    intro p hp
    rw [fm_some]; exact hp
  rw [if_neg k3]
  by_cases k1 : k = 1
  · rw [if_pos k1, fm_rd (by omega) (by omega), fm_bs, fm_bs, fm_bind]
    refine (fy_byteW h).mono ?_
    intro p hp
    rw [fm_some]; exact hp
  · rw [if_neg k1, fm_bs, fm_bind]
    refine (fy_byteW h).mono ?_
    intro p hp
    rw [fm_some]; exact hp
