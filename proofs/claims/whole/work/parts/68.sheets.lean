/-! sheets -/
theorem fh_rq4v : ∀ s, s < 4 → ([86, 88, 90, 92] : List Nat)[s]? = some (86 + 2 * s) := by decide
theorem fh_rq4 {s : Nat} (hs : s < 4) : fw_rq 4 [86, 88, 90, 92] (nI s) = some (86 + 2 * s) := fm_rq hs (by omega) (fh_rq4v s hs)
theorem fh_okS (s : Nat) (hs : s < 4) : fw_okS (86 + 2 * s) := match s, hs with
  | 0, _ => ⟨rfl, rfl⟩
  | 1, _ => ⟨rfl, rfl⟩
  | 2, _ => ⟨rfl, rfl⟩
  | 3, _ => ⟨rfl, rfl⟩
theorem rH.cong2 {μx μm νx νm : fw_M} {s : Nat} (h : rH μx μm s) (h1 : νx.1 (86 + 2 * s) = μx.1 (86 + 2 * s)) (h2 : νx.1 (86 + 2 * s + 1) = μx.1 (86 + 2 * s + 1)) (h3 : νm.1 24 s = μm.1 24 s) (h4 : νm.1 25 s = μm.1 25 s) (h5 : ∀ i, i < 24 → νm.1 26 (24 * s + i) = μm.1 26 (24 * s + i)) : rH νx νm s := by
  unfold rH at *
  rw [h1, h2, h3, h4]
  rcases h with h | ⟨a, l, z, b, c, d, e, f, g, k⟩
  · exact Or.inl h
  · exact Or.inr ⟨a, l, z, b, c, d, e, f, g, fun i hi => (k i hi).trans (h5 i hi).symm⟩
theorem fm_shI {n : Nat} {μx μm νx νm : fw_M} (hI : fm_I n μx μm) (hF : ∀ k, k < 86 ∨ 93 < k → νx.1 k = μx.1 k) (hG : ∀ k, k < 24 → νm.1 k = μm.1 k) (sh : ∀ s, s < 4 → rH νx νm s) : fm_I (n + 1) νx νm := by
  obtain ⟨⟨C, wc, xs, ms, kp⟩, im, tp, -, rk⟩ := hI
  have z : νm.1 0 = μm.1 0 := hG 0 (by omega)
  exact ⟨⟨C, wc, xs.cong (fun k h1 h2 => hF k (by omega)) wc.2.2.2.2.1.1, ms.cong (by rw [z]) (by rw [z]) (by rw [z]) (by rw [z]) (by rw [z]) (fun k h1 h2 => hG k (by omega)), kp.cong (hF 81 (by omega)) (hF 82 (by omega))⟩, im.cong (hF 0 (by omega)) (fun k h1 h2 => hF k (by omega)) (by rw [z]) (hG 23 (by omega)), tp.cong (by rw [hF 63 (by omega)]) (hF 64 (by omega)) (by rw [z]) (hG 10 (by omega)), sh, (rk.cong (by rw [z]) (hG 13 (by omega))).up (by omega)⟩
theorem fx_renew {t : Nat} {a b : Int32} {μ : fw_M} (hok : fw_okS t) : fm_T (f_Sheet_renew t a b μ) (fun ν => (∀ k, k ≠ t → k ≠ t + 1 → ν.1 k = μ.1 k) ∧ ν.1 t 1 = a ∧ ν.1 t 2 = b ∧ ν.1 t 3 = 1 ∧ ∀ i, i < 24 → ν.1 (t + 1) i = 0) := by
  unfold f_Sheet_renew
  rw [if_pos hok, fm_bind]
  refine (fh_fill (k := t + 1) (n := 24) hok.2 (by omega)).mono ?_
  intro ν ⟨h1, h2, h3⟩
  rw [fm_nm, fm_nm, fm_nm, fm_some]
  refine ⟨fun k k1 k2 => ?_, ?_, ?_, ?_, fun i hi => ?_⟩
  · rw [fm_wrn k1, fm_wrn k1, fm_wrn k1]
    exact h1 k (by simpa using k2)
  · simp [fm_wr]
  · simp [fm_wr]
  · simp [fm_wr]
  · simp [fm_wr]
    exact h3 i hi
theorem fy_sheetL {s : Nat} {μ : fw_M} (hs : s < 4) : fm_T (fw_wh (f_M_sheet_L46 (nI s)) fw_N (0, μ)) (fun ν => fm_F [26] μ ν ∧ ∀ j, ν.1 26 j = if 24 * s ≤ j ∧ j < 24 * s + 24 then 0 else μ.1 26 j) := by
  refine fm_up (P := fun i st => st.1 = nI i ∧ fm_F [26] μ st.2 ∧ ∀ j, st.2.1 26 j = if 24 * s ≤ j ∧ j < 24 * s + i then 0 else μ.1 26 j) 24 ?_ ?_ 0 (Nat.zero_le _) ⟨rfl, fm_F.rf, fun j => by rw [if_neg (by omega)]⟩ (by omega)
  · rintro i ⟨x, ν⟩ hi ⟨h1, h2, h3⟩
    simp only at h1 h2 h3
    subst h1
    unfold f_M_sheet_L46
    try dsimp only
    rw [if_neg (fh_nge (c := 24) (b := 24) rfl hi (by omega)), fm_l24, pk_mul, nI_add, fm_si (by omega) (by omega), fm_bs, fm_nm, fm_some, fm_Kl]
    refine ⟨nI_1 i, h2.wr, fun j => ?_⟩
    by_cases e : j = 24 * s + i
    · simp only [fm_wr, e, and_self, if_true]
      rw [if_pos (by omega)]
    · simp only [fm_wr, e, and_false, if_false, h3 j]
      by_cases q : 24 * s ≤ j ∧ j < 24 * s + i
      · rw [if_pos q, if_pos (by omega)]
      · rw [if_neg q, if_neg (by omega)]
  · rintro ⟨x, ν⟩ ⟨h1, h2, h3⟩
    simp only at h1 h2 h3
    subst h1
    unfold f_M_sheet_L46
    try dsimp only
    rw [if_pos (show (24 : Int32) ≤ nI 24 by decide), fm_some, fm_Kr]
    exact ⟨h2, h3⟩
theorem fo_sheet : fw_O_sheet fm_I := by
  intro n μx μm hn hI a1 a2 a3
  have hI2 := hI.up
  have sh := hI.2.2.2.1
  unfold f_X_sheet f_M_sheet
  rw [fh_isSheet, fh_isSheetM]
  by_cases h : 0 ≤ a1 ∧ a1 < 4
  · rw [if_pos h, fm_bs, fm_bs, if_neg fm_n10, if_neg fm_n10, fh_isLane, fh_isLaneM]
    by_cases g : 0 ≤ a2 ∧ a2 < 3
    · rw [if_pos g, fm_bs, fm_bs, if_neg fm_n10, if_neg fm_n10]
      by_cases c : a3 ≤ 24
      · rw [if_pos c, if_pos c]
        by_cases d : 0 ≤ a3
        · rw [if_pos d, if_pos d]
          obtain ⟨s, hs, rfl⟩ := fh_cs (n := 4) (by omega) h
          obtain ⟨l, hl, rfl⟩ := fh_cs (n := 3) (by omega) g
          obtain ⟨z, _, hz, rfl⟩ := fh_cl (l := 0) (n := 24) rfl rfl (by omega) (by omega) ⟨d, c⟩
          rw [fh_rq4 hs, fm_bs, if_pos (fh_okS s hs), fm_si hs (by omega), fm_bs, fm_si hs (by omega), fm_bs]
          obtain ⟨νx, e1, F, x1, x2, x3, x4⟩ := fx_renew (a := nI l) (b := nI z) (μ := μx) (fh_okS s hs)
          obtain ⟨νm, e2, G, y⟩ := fy_sheetL (s := s) (μ := fw_wr (fw_wr μm 24 s (nI l)) 25 s (nI z)) hs
          rw [e1, fm_bs, e2, fm_bs]
          refine ⟨_, _, _, rfl, rfl, ?_⟩
          have m24 : ∀ j, νm.1 24 j = if j = s then nI l else μm.1 24 j := fun j => by
            rw [G.at 24]; simp only [fm_wr, Nat.reduceEqDiff, false_and, if_false, true_and]
          have m25 : ∀ j, νm.1 25 j = if j = s then nI z else μm.1 25 j := fun j => by
            rw [G.at 25]; simp only [fm_wr, Nat.reduceEqDiff, false_and, if_false, true_and]
          have m26 : ∀ j, νm.1 26 j = if 24 * s ≤ j ∧ j < 24 * s + 24 then 0 else μm.1 26 j := fun j => by
            rw [y j]; simp only [fm_wr, Nat.reduceEqDiff, false_and, if_false]
          refine fm_shI hI (fun k hk => F k (by omega) (by omega)) (fun k hk => ?_) (fun q hq => ?_)
          · rw [G k (by simp; omega), fm_wrn (by omega), fm_wrn (by omega)]
          · by_cases e : q = s
            · subst e
              right
              refine ⟨x3, l, z, hl, hz, x1, by rw [m24, if_pos rfl], x2, by rw [m25, if_pos rfl], fun i hi => ?_⟩
              rw [x4 i hi, m26, if_pos (by omega)]
            · refine (sh q hq).cong2 (F _ (by omega) (by omega)) (F _ (by omega) (by omega)) (by rw [m24, if_neg e]) (by rw [m25, if_neg e]) (fun i hi => ?_)
              rw [m26, if_neg (by omega)]
        · rw [if_neg d, if_neg d]
          exact ⟨_, _, _, rfl, rfl, hI2⟩
      · rw [if_neg c, if_neg c]
        exact ⟨_, _, _, rfl, rfl, hI2⟩
    · rw [if_neg g, fm_bs, fm_bs, if_pos rfl, if_pos rfl]
      exact ⟨_, _, _, rfl, rfl, hI2⟩
  · rw [if_neg h, fm_bs, fm_bs, if_pos rfl, if_pos rfl]
    exact ⟨_, _, _, rfl, rfl, hI2⟩
theorem fo_drop : fw_O_drop fm_I := by
  intro n μx μm hn hI a1
  have hI2 := hI.up
  have sh := hI.2.2.2.1
  unfold f_X_drop f_M_drop
  rw [fh_isSheet, fh_isSheetM]
  by_cases h : 0 ≤ a1 ∧ a1 < 4
  · rw [if_pos h, fm_bs, fm_bs, if_neg fm_n10, if_neg fm_n10]
    obtain ⟨s, hs, rfl⟩ := fh_cs (n := 4) (by omega) h
    rw [fh_rq4 hs, fm_bs, if_pos (fh_okS s hs), fm_rd hs (by omega), fm_bs]
    rcases sh s hs with ⟨q1, q2⟩ | ⟨q1, l, z, hl, hz, x1, y1, x2, y2, it⟩
    · rw [q1, q2, if_pos rfl, fm_bs, if_neg (show ¬ (0 : Int32) ≤ -1 by decide)]
      exact ⟨_, _, _, rfl, rfl, hI2⟩
    · rw [q1, y1, if_neg fm_n10, fm_bs, if_pos (show 0 ≤ nI l from nI_pos' (by omega)), if_pos (fh_okS s hs), fm_nmE, fm_bs, if_pos (fh_okS s hs), fm_si hs (by omega), fm_bs, fm_rd hs (by omega), fm_bs]
      have ex : (fw_wr μx (86 + 2 * s) 3 0).1 (86 + 2 * s) 2 = nI z := by rw [fm_wr, if_neg (by omega)]; exact x2
      have em : (fw_wr μm 24 s (-1)).1 25 s = nI z := by rw [fm_wr, if_neg (by omega)]; exact y2
      rw [ex, em]
      refine ⟨_, _, _, rfl, rfl, ?_⟩
      refine fm_shI hI (fun k hk => fm_wrn (by omega)) (fun k hk => fm_wrn (by omega)) (fun q hq => ?_)
      by_cases e : q = s
      · subst e
        left
        exact ⟨by rw [fm_wr, if_pos ⟨rfl, rfl⟩], by rw [fm_wr, if_pos ⟨rfl, rfl⟩]⟩
      · refine (sh q hq).cong2 (fm_wrn (by omega)) (fm_wrn (by omega)) ?_ ?_ (fun i hi => ?_)
        · rw [fm_wr, if_neg (by omega)]
        · rw [fm_wr, if_neg (by omega)]
        · rw [fm_wr, if_neg (by omega)]
  · rw [if_neg h, fm_bs, fm_bs, if_pos rfl, if_pos rfl]
    exact ⟨_, _, _, rfl, rfl, hI2⟩
theorem fx_holds0 {t : Nat} {a b : Int32} {μ : fw_M} (hok : fw_okS t) (h : a < 0) : f_Sheet_holds t a b μ = some 0 := by
  unfold f_Sheet_holds
  rw [if_pos hok, if_pos h]; rfl
theorem fx_holds {t i k z : Nat} {μ : fw_M} (hok : fw_okS t) (hz : μ.1 t 2 = nI z) (z24 : z ≤ 24) (hi : i < 2147483648) (hk : k < 2147483648) : f_Sheet_holds t (nI i) (nI k) μ = some (if i + k ≤ z then 1 else 0) := by
  unfold f_Sheet_holds
  rw [if_pos hok, if_neg (nI_pos hi), if_neg (nI_pos hk), hz]
  by_cases h1 : z < k
  · rw [if_pos (nI_lt h1 hk), if_neg (by omega)]; rfl
  · rw [if_neg (nI_nlt (by omega) (by omega)), pk_sub (by omega)]
    by_cases h2 : i + k ≤ z
    · rw [if_neg (nI_nlt (by omega) (by omega)), if_pos h2]; rfl
    · rw [if_pos (nI_lt (by omega) hi), if_neg h2]; rfl
theorem fy_finds {s l i k z : Nat} {μ : fw_M} (hs : s < 4) (hl : μ.1 24 s = nI l) (l3 : l < 3) (hz : μ.1 25 s = nI z) (z24 : z ≤ 24) (hi : i < 2147483648) (hk : k < 2147483648) : f_M_finds (nI s) (nI l) (nI i) (nI k) μ = some (if i + k ≤ z then 0 else (-13)) := by
  unfold f_M_finds
  rw [fm_rd hs (by omega), fm_bs, hl, if_pos (nI_pos' (by omega)), fm_bs, if_pos rfl, if_neg (nI_pos hi), fm_rd hs (by omega), fm_bs, hz]
  have e : (lg_cmp (Int32.toInt64 (nI i) + Int32.toInt64 (nI k)) (Int32.toInt64 (nI z)) ≤ 0) ↔ i + k ≤ z := by
    rw [lg_cmp_le, Int64.le_iff_toInt_le, lg_i2l_add, Int32.toInt_toInt64, nI_toInt hi, nI_toInt hk, nI_toInt (by omega)]
    omega
  by_cases h : i + k ≤ z
  · rw [if_pos (e.mpr h), if_pos h, fm_bs]
  · rw [if_neg (fun q => h (e.mp q)), if_neg h, fm_bs]
def fh_pr (μx μm : fw_M) (s l z : Nat) : Prop := l < 3 ∧ z ≤ 24 ∧ μx.1 (86 + 2 * s) 3 = 1 ∧ μx.1 (86 + 2 * s) 1 = nI l ∧ μm.1 24 s = nI l ∧ μx.1 (86 + 2 * s) 2 = nI z ∧ μm.1 25 s = nI z ∧ ∀ i, i < 24 → μx.1 (86 + 2 * s + 1) i = μm.1 26 (24 * s + i)
theorem fh_ref {μx μm : fw_M} {s k : Nat} (hH : rH μx μm s) (hs : s < 4) (a2 a3 : Int32) (ha : 0 ≤ a2 ∧ a2 < 3) (hk : k < 2147483648) : ∃ r, f_X_refusal (nI s) a2 a3 (nI k) μx = some r ∧ f_M_finds (nI s) a2 a3 (nI k) μm = some r ∧ (¬ 0 ≤ r ∨ (r = 0 ∧ ∃ l z i : Nat, a2 = nI l ∧ a3 = nI i ∧ i + k ≤ z ∧ fh_pr μx μm s l z)) := by
  unfold f_X_refusal
  rw [fh_isSheet, if_pos (fh_cs4 hs), fm_bs, if_neg fm_n10, fh_isLane, if_pos ha, fm_bs, if_neg fm_n10, fh_rq4 hs, fm_bs, if_pos (fh_okS s hs)]
  rcases hH with ⟨q1, q2⟩ | ⟨q1, l, z, hl, hz, x1, y1, x2, y2, it⟩
  · refine ⟨-11, by rw [q1, if_pos rfl], ?_, Or.inl (by decide)⟩
    unfold f_M_finds
    rw [fm_rd hs (by omega), fm_bs, q2, if_neg (by decide)]
  · rw [q1, if_neg fm_n10, x1]
    by_cases e : nI l = a2
    · subst e
      rw [if_pos rfl]
      rcases fm_num a3 with h | ⟨i, hi, rfl⟩
      · rw [fx_holds0 (fh_okS s hs) h]
        refine ⟨-13, rfl, ?_, Or.inl (by decide)⟩
        unfold f_M_finds
        rw [fm_rd hs (by omega), fm_bs, y1, if_pos (nI_pos' (by omega)), fm_bs, if_pos rfl, if_pos h, fm_bs]
      · rw [fx_holds (fh_okS s hs) x2 hz hi hk, fm_bs, fy_finds hs y1 hl y2 hz hi hk]
        by_cases g : i + k ≤ z
        · rw [if_pos g, if_pos g]
          exact ⟨0, rfl, rfl, Or.inr ⟨rfl, l, z, i, rfl, rfl, g, hl, hz, q1, x1, y1, x2, y2, it⟩⟩
        · rw [if_neg g, if_neg g]
          exact ⟨-13, rfl, rfl, Or.inl (by decide)⟩
    · refine ⟨-12, by rw [if_neg e], ?_, Or.inl (by decide)⟩
      unfold f_M_finds
      rw [fm_rd hs (by omega), fm_bs, y1, if_pos (nI_pos' (by omega)), fm_bs, if_neg e]
theorem fx_refusal0 {a1 a2 a3 a4 : Int32} {μ : fw_M} (h : ¬ (0 ≤ a1 ∧ a1 < 4) ∨ ¬ (0 ≤ a2 ∧ a2 < 3)) : f_X_refusal a1 a2 a3 a4 μ = some (-1) := by
  unfold f_X_refusal
  rw [fh_isSheet]
  by_cases g : 0 ≤ a1 ∧ a1 < 4
  · rw [if_pos g, fm_bs, if_neg fm_n10, fh_isLane, if_neg (h.resolve_left (fun q => q g)), fm_bs, if_pos rfl]
  · rw [if_neg g, fm_bs, if_pos rfl]
theorem fx_put {t i : Nat} {l : Nat} {v : Int32} {μ : fw_M} (hok : fw_okS t) (hl : μ.1 t 1 = nI l) (hi : i < 24) : f_Sheet_put t (nI i) v μ = some (fw_wr μ (t + 1) i (if nI l = 0 then Int8.toInt32 (Int32.toInt8 v) else if nI l = 1 then Int16.toInt32 (Int32.toInt16 v) else v)) := by
  unfold f_Sheet_put
  rw [if_pos hok, hl]
  by_cases e0 : nI l = 0
  · rw [if_pos e0, if_pos e0, fm_si hi (by omega), fm_bs, fm_bs]
  · by_cases e1 : nI l = 1
    · rw [if_neg e0, if_neg e0, if_pos e1, if_pos e1, fm_si hi (by omega), fm_bs, fm_bs]
    · rw [if_neg e0, if_neg e0, if_neg e1, if_neg e1, fm_si hi (by omega), fm_bs, fm_bs]
theorem fo_item : fw_O_item fm_I := by
  intro n μx μm hn hI a1 a2 a3 a4
  have hI2 := hI.up
  have sh := hI.2.2.2.1
  unfold f_X_item f_M_item
  rw [fh_isSheetM]
  by_cases h : 0 ≤ a1 ∧ a1 < 4
  · rw [if_pos h, fm_bs, if_neg fm_n10, fh_isLaneM]
    by_cases g : 0 ≤ a2 ∧ a2 < 3
    · rw [if_pos g, fm_bs, if_neg fm_n10]
      obtain ⟨s, hs, rfl⟩ := fh_cs (n := 4) (by omega) h
      obtain ⟨r, er, em, hr⟩ := fh_ref (k := 1) (sh s hs) hs a2 a3 g (by omega)
      rw [show f_X_refusal (nI s) a2 a3 1 μx = some r from er, show f_M_finds (nI s) a2 a3 1 μm = some r from em, fm_bs, fm_bs]
      rcases hr with hr | ⟨rfl, l, z, i, rfl, rfl, hi, hl, hz, q1, x1, y1, x2, y2, it⟩
      · rw [if_neg hr, if_neg hr]
        exact ⟨_, _, _, rfl, rfl, hI2⟩
      · rw [if_pos (show (0 : Int32) ≤ 0 by decide), if_pos (show (0 : Int32) ≤ 0 by decide), fh_rq4 hs, fm_bs, if_pos (fh_okS s hs), fx_put (fh_okS s hs) x1 (by omega), fm_bs, fm_nmE, fm_l24, pk_mul, nI_add, fm_si (by omega) (by omega), fm_bs]
        refine ⟨_, _, _, rfl, rfl, ?_⟩
        generalize hv : (if nI l = 0 then Int8.toInt32 (Int32.toInt8 a4) else if nI l = 1 then Int16.toInt32 (Int32.toInt16 a4) else a4) = v
        refine fm_shI hI (fun k hk => fm_wrn (by omega)) (fun k hk => fm_wrn (by omega)) (fun q hq => ?_)
        by_cases e : q = s
        · subst e
          right
          refine ⟨?_, l, z, hl, hz, ?_, ?_, ?_, ?_, fun j hj => ?_⟩
          · rw [fm_wr, if_neg (by omega)]; exact q1
          · rw [fm_wr, if_neg (by omega)]; exact x1
          · rw [fm_wr, if_neg (by omega)]; exact y1
          · rw [fm_wr, if_neg (by omega)]; exact x2
          · rw [fm_wr, if_neg (by omega)]; exact y2
          · by_cases e2 : j = i
            · subst e2
              rw [fm_wr, if_pos ⟨rfl, rfl⟩, fm_wr, if_pos ⟨rfl, rfl⟩]
            · rw [fm_wr, if_neg (by omega), fm_wr, if_neg (by omega)]
              exact it j hj
        · refine (sh q hq).cong2 (fm_wrn (by omega)) (fm_wrn (by omega)) ?_ ?_ (fun i hi => ?_)
          · rw [fm_wr, if_neg (by omega)]
          · rw [fm_wr, if_neg (by omega)]
          · rw [fm_wr, if_neg (by omega)]
    · rw [if_neg g, fm_bs, if_pos rfl, fx_refusal0 (Or.inr g), fm_bs, if_neg (by decide)]
      exact ⟨_, _, _, rfl, rfl, hI2⟩
  · rw [if_neg h, fm_bs, if_pos rfl, fx_refusal0 (Or.inl h), fm_bs, if_neg (by decide)]
    exact ⟨_, _, _, rfl, rfl, hI2⟩
