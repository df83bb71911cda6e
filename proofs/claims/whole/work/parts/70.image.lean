/-! text -/
theorem fh_rq8v : ∀ k, k < 8 → ([11, 13, 15, 17, 19, 21, 23, 25] : List Nat)[k]? = some (11 + 2 * k) := by decide
theorem fh_rq8 {k : Nat} (hk : k < 8) : fw_rq 8 [11, 13, 15, 17, 19, 21, 23, 25] (nI k) = some (11 + 2 * k) := fm_rq hk (by omega) (fh_rq8v k hk)
theorem fh_rq8w : ∀ k, k < 8 → ([42, 44, 46, 48, 50, 52, 54, 56] : List Nat)[k]? = some (42 + 2 * k) := by decide
theorem fh_rq8k {k : Nat} (hk : k < 8) : fw_rq 8 [42, 44, 46, 48, 50, 52, 54, 56] (nI k) = some (42 + 2 * k) := fm_rq hk (by omega) (fh_rq8w k hk)
theorem fh_okT (s : Nat) (hs : s < 8) : fw_okL (11 + 2 * s) := match s, hs with
  | 0, _ => ⟨rfl, rfl⟩
  | 1, _ => ⟨rfl, rfl⟩
  | 2, _ => ⟨rfl, rfl⟩
  | 3, _ => ⟨rfl, rfl⟩
  | 4, _ => ⟨rfl, rfl⟩
  | 5, _ => ⟨rfl, rfl⟩
  | 6, _ => ⟨rfl, rfl⟩
  | 7, _ => ⟨rfl, rfl⟩
theorem fh_okU (s : Nat) (hs : s < 8) : fw_okL (42 + 2 * s) := match s, hs with
  | 0, _ => ⟨rfl, rfl⟩
  | 1, _ => ⟨rfl, rfl⟩
  | 2, _ => ⟨rfl, rfl⟩
  | 3, _ => ⟨rfl, rfl⟩
  | 4, _ => ⟨rfl, rfl⟩
  | 5, _ => ⟨rfl, rfl⟩
  | 6, _ => ⟨rfl, rfl⟩
  | 7, _ => ⟨rfl, rfl⟩
theorem fm_cpz {n0 n1 k0 k1 n : Nat} {μ : fw_M} (h0 : n ≤ n0) (h1 : n ≤ n1) (b0 : n0 < 2147483648) (b1 : n1 < 2147483648) : fw_cp n0 n1 μ k0 0 k1 0 (nI n) = some (fw_wc μ k1 (va_cpy (μ.1 k0) (μ.1 k1) 0 0 n)) := fm_cp (sp := 0) (dp := 0) (n := n) (by omega) (by omega) b0 b1
theorem fm_cpy0 {f g : Nat → Int32} {n j : Nat} (h : j < n) : va_cpy f g 0 0 n j = f j := by
  rw [pk_cpy_in (Nat.zero_le _) (by omega), show 0 + (j - 0) = j by omega]
theorem fx_ltake {t0 t1 : Nat} {μ : fw_M} (h0 : fw_okL t0) (h1 : fw_okL t1) (n1 : t0 ≠ t1) (n2 : t0 + 1 ≠ t1) (n3 : t0 ≠ t1 + 1) : fm_T (f_Line_take t0 t1 μ) (fun ν => (∀ k, k ≠ t0 → k ≠ t0 + 1 → ν.1 k = μ.1 k) ∧ ν.1 t0 1 = μ.1 t1 1 ∧ ν.1 t0 2 = μ.1 t1 2 ∧ ∀ i, i < 10 → ν.1 (t0 + 1) i = μ.1 (t1 + 1) i) := by
  unfold f_Line_take
  rw [if_pos h0, if_pos h1, show (10 : Int32) = nI 10 from rfl, fm_cpz (n := 10) (Nat.le_refl _) (Nat.le_refl _) (by omega) (by omega), fm_bs, fm_nm, fm_nm, fm_some]
  have w1 : (fw_wc μ (t0 + 1) (va_cpy (μ.1 (t1 + 1)) (μ.1 (t0 + 1)) 0 0 10)).1 t1 = μ.1 t1 := fm_wcn (by omega)
  refine ⟨fun k k1 k2 => ?_, ?_, ?_, fun i hi => ?_⟩
  · rw [fm_wrn k1, fm_wrn k1, fm_wcn k2]
  · rw [fm_wr, if_neg (by omega), fm_wr, if_pos ⟨rfl, rfl⟩, w1]
  · rw [fm_wr, if_pos ⟨rfl, rfl⟩, fm_wr, if_neg (by omega), w1]
  · rw [fm_wrn (by omega), fm_wrn (by omega), fm_wcs, fm_cpy0 hi]
theorem xL.tk {t0 t1 : Nat} {μ ν : fw_M} {L : fm_Li} (wl : wL L) (h : xL t1 μ L) (h1 : ν.1 t0 1 = μ.1 t1 1) (h2 : ν.1 t0 2 = μ.1 t1 2) (h3 : ∀ i, i < 10 → ν.1 (t0 + 1) i = μ.1 (t1 + 1) i) : xL t0 ν L := by
  have := wl.1
  exact ⟨⟨h1.trans h.1.1, fun i hi => (h3 i (by omega)).trans (h.1.2 i hi)⟩, h2.trans h.2⟩
theorem fm_xx_app {X : List (Nat × fm_Li)} {t : Nat × fm_Li} {i : Nat} (hi : i < X.length) : fm_xx (X ++ [t]) i = fm_xx X i := fm_gDa hi
theorem fm_xx_last {X : List (Nat × fm_Li)} {t : Nat × fm_Li} : fm_xx (X ++ [t]) X.length = t := fm_gDl
theorem fx_text {μ : fw_M} {X : List (Nat × fm_Li)} {L : fm_Li} {s : Nat} (hX : xX 1 μ X) (hl : X.length < 8) (wl : wL L) (hL : xL 6 μ L) (h0 : L.1.length ≠ 0) (hs : s < 4) : fm_T (f_X_text (nI s) μ) (fun p => p.1 = nI X.length ∧ (∀ k, k ≠ 1 → k ≠ 11 + 2 * X.length → k ≠ 12 + 2 * X.length → k ≠ 27 → k ≠ 81 → p.2.1 k = μ.1 k) ∧ xX 1 p.2 (X ++ [(s, L)]) ∧ (∀ j, p.2.1 81 j = if j = X.length then 0 else μ.1 81 j)) := by
  have h10 := wl.1
  unfold f_X_text
  rw [fh_isSense, if_pos (fh_cs4 hs), fm_bs, if_neg fm_n10, show μ.1 6 1 = nI L.1.length from hL.1.1, if_neg (nI_ne0 (by omega) (by omega)), show μ.1 1 6 = nI X.length from hX.1, if_pos (fh_lt (c := 8) (b := 8) rfl hl (by omega)), fm_nm, fh_rq8 hl, fm_bs, if_pos (fh_okT _ hl), fm_bind]
  refine (fx_ltake (fh_okT _ hl) fh_ok6 (by omega) (by omega) (by omega)).mono ?_
  intro ν ⟨f1, f2, f3, f4⟩
  rw [fm_si hl (by omega), fm_bs, fm_nm, fm_si (by omega) (by omega), fm_bs, fm_some]
  refine ⟨rfl, fun k k1 k2 k3 k4 k5 => ?_, ⟨?_, fun t ht => ?_⟩, fun j => ?_⟩
  · rw [fm_wrn k5, fm_wrn k1, fm_wrn k4, f1 k (by omega) (by omega)]
  · rw [fm_wrn (show 1 ≠ 81 by decide), fm_wr, if_pos ⟨rfl, rfl⟩, nI_1, List.length_append, List.length_singleton]
  · rw [List.length_append, List.length_singleton] at ht
    by_cases e : t < X.length
    · rw [fm_xx_app e]
      refine ⟨(hX.2 t e).1.cong ?_ ?_, ?_⟩
      · rw [fm_wrn (by omega), fm_wrn (by omega), fm_wrn (by omega), f1 _ (by omega) (by omega)]
      · rw [fm_wrn (by omega), fm_wrn (by omega), fm_wrn (by omega), f1 _ (by omega) (by omega)]
      · rw [fm_wrn (by omega), fm_wrn (by omega), fm_wr, if_neg (by omega), f1 _ (by omega) (by omega)]
        exact (hX.2 t e).2
    · have e2 : t = X.length := by omega
      subst e2
      rw [fm_xx_last]
      refine ⟨xL.tk (t1 := 6) (μ := μ) wl hL ?_ ?_ (fun i hi => ?_), ?_⟩
      · rw [fm_wrn (by omega), fm_wrn (by omega), fm_wrn (by omega), show 1 + 10 + 2 * X.length = 11 + 2 * X.length by omega]; exact f2
      · rw [fm_wrn (by omega), fm_wrn (by omega), fm_wrn (by omega), show 1 + 10 + 2 * X.length = 11 + 2 * X.length by omega]; exact f3
      · rw [fm_wrn (by omega), fm_wrn (by omega), fm_wrn (by omega), show 1 + 10 + 2 * X.length = 11 + 2 * X.length by omega]; exact f4 i hi
      · rw [fm_wrn (by omega), fm_wrn (by omega), fm_wr, if_pos ⟨rfl, rfl⟩]
  · by_cases e : j = X.length
    · rw [fm_wr, if_pos ⟨rfl, e⟩, if_pos e]
    · rw [fm_wr, if_neg (fun q => e q.2), if_neg e, fm_wrn (by omega), fm_wrn (by omega), f1 _ (by omega) (by omega)]
theorem fy_textL {μ : fw_M} {k n : Nat} (h6 : μ.1 0 6 = nI n) (h9 : μ.1 0 9 = nI k) (hk : k < 8) (hn : n ≤ 10) : fm_T (fw_wh f_M_text_L87 fw_N (0, μ)) (fun ν => fm_F [7] μ ν ∧ ∀ j, ν.1 7 j = if 13 * k + 3 ≤ j ∧ j < 13 * k + 3 + n then μ.1 6 (j - (13 * k + 3)) else μ.1 7 j) := by
  refine fm_up (P := fun i s => s.1 = nI i ∧ fm_F [7] μ s.2 ∧ ∀ j, s.2.1 7 j = if 13 * k + 3 ≤ j ∧ j < 13 * k + 3 + i then μ.1 6 (j - (13 * k + 3)) else μ.1 7 j) n ?_ ?_ 0 (Nat.zero_le _) ⟨rfl, fm_F.rf, fun j => by rw [if_neg (by omega)]⟩ (by omega)
  · rintro i ⟨x, ν⟩ hi ⟨h1, h2, h3⟩
    simp only at h1 h2 h3
    subst h1
    unfold f_M_text_L87
    try dsimp only
    rw [h2.at 0, h6, if_neg (nI_ge hi (by omega)), fm_rd (by omega) (by omega), fm_bs, h9, h2.at 6, show (13 : Int32) = nI 13 from rfl, show (3 : Int32) = nI 3 from rfl, pk_mul, nI_add, nI_add, fm_si (by omega) (by omega), fm_bs, fm_nm, fm_some, fm_Kl]
    refine ⟨nI_1 i, h2.wr, fun j => ?_⟩
    by_cases e : j = 13 * k + 3 + i
    · simp only [fm_wr, e, and_self, if_true]
      rw [if_pos (by omega), show 13 * k + 3 + i - (13 * k + 3) = i by omega]
    · simp only [fm_wr, e, and_false, if_false, h3 j]
      by_cases q : 13 * k + 3 ≤ j ∧ j < 13 * k + 3 + i
      · rw [if_pos q, if_pos (by omega)]
      · rw [if_neg q, if_neg (by omega)]
  · rintro ⟨x, ν⟩ ⟨h1, h2, h3⟩
    simp only at h1 h2 h3
    subst h1
    unfold f_M_text_L87
    try dsimp only
    rw [h2.at 0, h6, if_pos (nI_le (Nat.le_refl _) (by omega)), fm_some, fm_Kr]
    exact ⟨h2, h3⟩
theorem fy_text {μ : fw_M} {X : List (Nat × fm_Li)} {L : fm_Li} {s : Nat} (hX : mX μ.1 X) (hl : X.length < 8) (wx : wX X) (wl : wL L) (hL : rL (μ.1 0 6) (μ.1 6) L ∧ μ.1 0 8 = nI L.2) (h0 : L.1.length ≠ 0) (hs : s < 4) : fm_T (f_M_text (nI s) μ) (fun p => p.1 = nI X.length ∧ fm_F [0, 7] μ p.2 ∧ (∀ j, j ≠ 9 → p.2.1 0 j = μ.1 0 j) ∧ mX p.2.1 (X ++ [(s, L)])) := by
  have h10 := wl.1
  have h9 : μ.1 0 9 = nI X.length := hX.1
  have h6 : μ.1 0 6 = nI L.1.length := hL.1.1
  unfold f_M_text
  rw [fh_inN (a := nI s) (c := 3) 4 rfl (by omega), if_pos (fh_csI (n := 4) (by omega) hs), fm_bs, if_neg fm_n10, h6, if_neg (nI_ne0 (by omega) (by omega)), h9, if_neg (show ¬ nI X.length = 8 from fun e => by have := (nI_eq (a := X.length) (b := 8) (by omega) (by omega)).mp e; omega), show (13 : Int32) = nI 13 from rfl, pk_mul, fm_si (by omega) (by omega), fm_bs, fm_wrn (show 0 ≠ 7 by decide), h9, hL.2, pk_mul, show (1 : Int32) = nI 1 from rfl, nI_add, fm_si (by omega) (by omega), fm_bs, fm_wrn (show 0 ≠ 7 by decide), fm_wrn (show 0 ≠ 7 by decide), h9, pk_mul, show (2 : Int32) = nI 2 from rfl, nI_add, fm_si (by omega) (by omega), fm_bs, fm_bind]
  generalize hμ : fw_wr (fw_wr (fw_wr μ 7 (13 * X.length) (nI L.1.length)) 7 (13 * X.length + 1) (nI L.2)) 7 (13 * X.length + 2) (nI s) = μ3
  have f7 : fm_F [7] μ μ3 := by rw [← hμ]; exact ((fm_F.rf.wr).wr).wr
  have v7 : ∀ j, μ3.1 7 j = if j = 13 * X.length + 2 then nI s else if j = 13 * X.length + 1 then nI L.2 else if j = 13 * X.length then nI L.1.length else μ.1 7 j := fun j => by rw [← hμ]; simp only [fm_wr, true_and]
  refine (fy_textL (k := X.length) (n := L.1.length) (by rw [f7.at 0]; exact h6) (by rw [f7.at 0]; exact h9) hl h10).mono ?_
  intro ν ⟨f8, v8⟩
  rw [fm_nm, fm_some]
  have z : ν.1 0 = μ.1 0 := by rw [f8.at 0, f7.at 0]
  have w7 : ∀ a, (fw_wr ν 0 9 (ν.1 0 9 + nI 1)).1 7 a = ν.1 7 a := fun a => by rw [fm_wrn (show 7 ≠ 0 by decide)]
  refine ⟨?_, ((f7.up : fm_F [0, 7] μ μ3).tr f8.up).wr, fun j hj => ?_, ?_, fun t ht => ?_⟩
  · rw [fm_wr, if_pos ⟨rfl, rfl⟩, z, h9, nI_add]; exact nI_pred _
  · rw [fm_wr, if_neg (fun q => hj q.2), z]
  · rw [fm_wr, if_pos ⟨rfl, rfl⟩, z, h9, nI_add, List.length_append, List.length_singleton]
  · rw [List.length_append, List.length_singleton] at ht
    simp only [w7]
    by_cases e : t < X.length
    · rw [fm_xx_app e]
      have h11 := (wx.2 t e).2.1.1
      obtain ⟨a, b, c, d⟩ := hX.2 t e
      refine ⟨?_, ?_, ?_, fun p hp => ?_⟩
      · rw [v8, if_neg (by omega), v7, if_neg (by omega), if_neg (by omega), if_neg (by omega)]; exact a
      · rw [v8, if_neg (by omega), v7, if_neg (by omega), if_neg (by omega), if_neg (by omega)]; exact b
      · rw [v8, if_neg (by omega), v7, if_neg (by omega), if_neg (by omega), if_neg (by omega)]; exact c
      · rw [v8, if_neg (by omega), v7, if_neg (by omega), if_neg (by omega), if_neg (by omega)]; exact d p hp
    · have e2 : t = X.length := by omega
      subst e2
      rw [fm_xx_last]
      refine ⟨?_, ?_, ?_, fun p hp => ?_⟩
      · rw [v8, if_neg (by omega), v7, if_neg (by omega), if_neg (by omega), if_pos rfl]
      · rw [v8, if_neg (by omega), v7, if_neg (by omega), if_pos rfl]
      · rw [v8, if_neg (by omega), v7, if_pos rfl]
      · have hp2 : p < L.1.length := hp
        rw [v8, if_pos (by omega), f7.at 6, show 13 * X.length + 3 + p - (13 * X.length + 3) = p by omega]
        exact hL.1.2 p hp2
theorem fo_text : fw_O_text fm_I := by
  intro n μx μm hn hI a1
  have hI2 := hI.up
  obtain ⟨⟨C, wc, xs, ms, kp⟩, im, tp, sh, rk⟩ := hI
  have h10 := wc.2.1.1
  have h8 := wc.2.2.2.2.1.1
  have l1 : μx.1 6 1 = nI C.2.1.1.length := xs.2.1.1.1
  have l2 : μm.1 0 6 = nI C.2.1.1.length := ms.2.1.1.1
  have e1 : μx.1 1 6 = nI C.2.2.2.2.1.length := xs.2.2.2.2.1.1
  have e3 : μm.1 0 9 = nI C.2.2.2.2.1.length := ms.2.2.2.2.1.1
  by_cases h : 0 ≤ a1 ∧ a1 < 4
  · by_cases h0 : C.2.1.1.length = 0
    · unfold f_X_text f_M_text
      rw [fh_isSense, if_pos h, fm_bs, if_neg fm_n10, l1, h0, if_pos (show nI 0 = 0 from rfl), fh_inN (a := a1) (c := 3) 4 rfl (by omega), if_pos (show 0 ≤ a1 ∧ a1 < nI 4 from h), fm_bs, if_neg fm_n10, l2, h0, if_pos (show nI 0 = 0 from rfl)]
      exact ⟨_, _, _, rfl, rfl, hI2⟩
    · by_cases hf : C.2.2.2.2.1.length < 8
      · obtain ⟨s, hs, rfl⟩ := fh_cs (n := 4) (by omega) h
        obtain ⟨⟨r, νx⟩, ex, rfl, F, xx, k81⟩ := fx_text xs.2.2.2.2.1 hf wc.2.1 xs.2.1 h0 hs
        obtain ⟨⟨r2, νm⟩, em, rfl, G, Z, mx⟩ := fy_text ms.2.2.2.2.1 hf wc.2.2.2.2.1 wc.2.1 ms.2.1 h0 hs
        simp only at F xx k81 G Z mx
        refine ⟨_, _, _, ex, em, ?_⟩
        have c : ∀ k, 2 ≤ k → k ≤ 10 → νx.1 k = μx.1 k := fun k k1 k2 => F k (by omega) (by omega) (by omega) (by omega) (by omega)
        have c2 : ∀ k, 28 ≤ k → k ≠ 81 → νx.1 k = μx.1 k := fun k k1 k2 => F k (by omega) (by omega) (by omega) (by omega) (by omega)
        refine ⟨⟨(C.1, C.2.1, C.2.2.1, C.2.2.2.1, C.2.2.2.2.1 ++ [(s, C.2.1)], C.2.2.2.2.2), ?_, ⟨?_, xs.2.1.cong (c _ (by omega) (by omega)) (c _ (by omega) (by omega)), ?_, ?_, xx, ?_⟩, ⟨dT ms.1 G (Z 0 (by decide)), dL ms.2.1 G (Z 6 (by decide)) (Z 8 (by decide)), dW ms.2.2.1 G, dR ms.2.2.2.1 G, mx, dJ ms.2.2.2.2.2 G (Z 11 (by decide))⟩, ?_⟩, im.cong (F 0 (by omega) (by omega) (by omega) (by omega) (by omega)) (fun k k1 k2 => c2 k (by omega) (by omega)) (Z 32 (by decide)) (G.at 23), tp.cong (by rw [c2 63 (by omega) (by omega)]) (c2 64 (by omega) (by omega)) (Z 15 (by decide)) (G.at 10), fm_sheets sh (fun k k1 k2 => c2 k (by omega) (by omega)) (G.at 24) (G.at 25) (G.at 26), rk.st G (Z 21 (by decide))⟩
        · refine ⟨wc.1, wc.2.1, wc.2.2.1, wc.2.2.2.1, ⟨by rw [List.length_append, List.length_singleton]; omega, fun t ht => ?_⟩, wc.2.2.2.2.2⟩
          rw [List.length_append, List.length_singleton] at ht
          by_cases e : t < C.2.2.2.2.1.length
          · rw [fm_xx_app e]; exact wc.2.2.2.2.1.2 t e
          · have e2 : t = C.2.2.2.2.1.length := by omega
            subst e2
            rw [fm_xx_last]
            exact ⟨hs, wc.2.1, by show 1 ≤ C.2.1.1.length; omega⟩
        · show rT (νx.1 2 3) (νx.1 3) (νx.1 4) (νx.1 5) C.1
          rw [c 2 (by omega) (by omega), c 3 (by omega) (by omega), c 4 (by omega) (by omega), c 5 (by omega) (by omega)]; exact xs.1
        · rw [c 8 (by omega) (by omega)]; exact xs.2.2.1
        · rw [c 9 (by omega) (by omega)]; exact xs.2.2.2.1
        · show rJ (νx.1 28 3) (νx.1 29) (νx.1 30) C.2.2.2.2.2
          rw [c2 28 (by omega) (by omega), c2 29 (by omega) (by omega), c2 30 (by omega) (by omega)]; exact xs.2.2.2.2.2
        · refine ⟨fun k hk => ?_, ?_⟩
          · simp only at hk ⊢
            rw [List.length_append, List.length_singleton] at hk
            rw [k81]
            by_cases e : k < C.2.2.2.2.1.length
            · rw [if_neg (by omega), fm_xx_app e]; exact kp.1 k e
            · rw [if_pos (by omega)]; exact Or.inl rfl
          · simp only
            rw [k81, if_neg (by omega), c2 82 (by omega) (by omega)]; exact kp.2
      · have e : C.2.2.2.2.1.length = 8 := by omega
        unfold f_X_text f_M_text
        rw [fh_isSense, if_pos h, fm_bs, if_neg fm_n10, l1, if_neg (nI_ne0 (by omega) (by omega)), fh_inN (a := a1) (c := 3) 4 rfl (by omega), if_pos (show 0 ≤ a1 ∧ a1 < nI 4 from h), fm_bs, if_neg fm_n10, l2, if_neg (nI_ne0 (by omega) (by omega)), e1, e3, e, if_neg (show ¬ nI 8 < 8 by decide), if_pos (show nI 8 = 8 by decide)]
        exact ⟨_, _, _, rfl, rfl, hI2⟩
  · unfold f_X_text f_M_text
    rw [fh_isSense, if_neg h, fm_bs, if_pos rfl, fh_inN (a := a1) (c := 3) 4 rfl (by omega), if_neg (show ¬ (0 ≤ a1 ∧ a1 < nI 4) from h), fm_bs, if_pos rfl]
    exact ⟨_, _, _, rfl, rfl, hI2⟩
/-! image, restore: the class -/
theorem fx_ct_32 {μ : fw_M} {T : List fm_Ty} (wt : wT T) (h : rT (μ.1 2 3) (μ.1 3) (μ.1 4) (μ.1 5) T) : fm_T (f_Case_take_33_2 μ) (fun ν => fm_F [33, 34, 35, 36] μ ν ∧ rT (ν.1 33 3) (ν.1 34) (ν.1 35) (ν.1 36) T) := by
  have h10 := wt.1
  unfold f_Case_take_33_2
  rw [show (10 : Int32) = nI 10 from rfl, fm_cpz (n := 10) (Nat.le_refl _) (Nat.le_refl _) (by omega) (by omega), fm_bs, fm_cpz (n := 10) (Nat.le_refl _) (Nat.le_refl _) (by omega) (by omega), fm_bs, fm_cpz (n := 10) (Nat.le_refl _) (Nat.le_refl _) (by omega) (by omega), fm_bs, fm_nm, fm_some]
  refine ⟨(((fm_F.rf.wc).wc).wc).wr, ?_, fun i hi => ⟨?_, ?_, ?_⟩⟩
  · rw [fm_wr, if_pos ⟨rfl, rfl⟩, fm_wcn (by decide), fm_wcn (by decide), fm_wcn (by decide)]; exact h.1
  · rw [fm_wrn (by decide), fm_wcn (by decide), fm_wcn (by decide), fm_wcs, fm_cpy0 (by omega)]; exact (h.2 i hi).1
  · rw [fm_wrn (by decide), fm_wcn (by decide), fm_wcs, fm_cpy0 (by omega), fm_wcn (by decide)]; exact (h.2 i hi).2.1
  · rw [fm_wrn (by decide), fm_wcs, fm_cpy0 (by omega), fm_wcn (by decide), fm_wcn (by decide)]; exact (h.2 i hi).2.2
theorem fx_jt_32 {μ : fw_M} {J : List (Nat × Nat)} (wj : wJ J) (h : rJ (μ.1 28 3) (μ.1 29) (μ.1 30) J) : fm_T (f_Jobs_take_59_28 μ) (fun ν => fm_F [59, 60, 61] μ ν ∧ rJ (ν.1 59 3) (ν.1 60) (ν.1 61) J) := by
  have h8 := wj.1
  unfold f_Jobs_take_59_28
  rw [show (8 : Int32) = nI 8 from rfl, fm_cpz (n := 8) (Nat.le_refl _) (Nat.le_refl _) (by omega) (by omega), fm_bs, fm_cpz (n := 8) (Nat.le_refl _) (Nat.le_refl _) (by omega) (by omega), fm_bs, fm_nm, fm_some]
  refine ⟨((fm_F.rf.wc).wc).wr, ?_, fun i hi => ⟨?_, ?_⟩⟩
  · rw [fm_wr, if_pos ⟨rfl, rfl⟩, fm_wcn (by decide), fm_wcn (by decide)]; exact h.1
  · rw [fm_wrn (by decide), fm_wcn (by decide), fm_wcs, fm_cpy0 (by omega)]; exact (h.2 i hi).1
  · rw [fm_wrn (by decide), fm_wcs, fm_cpy0 (by omega), fm_wcn (by decide)]; exact (h.2 i hi).2
theorem fx_tx_32 {μ : fw_M} : fm_T (fw_wh f_Shop_take_32_1_L53 fw_N (0, μ)) (fun ν => (∀ k, k < 42 ∨ 57 < k → ν.1 k = μ.1 k) ∧ ∀ t, t < 8 → ν.1 (42 + 2 * t) 1 = μ.1 (11 + 2 * t) 1 ∧ ν.1 (42 + 2 * t) 2 = μ.1 (11 + 2 * t) 2 ∧ ∀ i, i < 10 → ν.1 (42 + 2 * t + 1) i = μ.1 (11 + 2 * t + 1) i) := by
  refine fm_up (P := fun i s => s.1 = nI i ∧ (∀ k, k < 42 ∨ 42 + 2 * i ≤ k → s.2.1 k = μ.1 k) ∧ ∀ t, t < i → s.2.1 (42 + 2 * t) 1 = μ.1 (11 + 2 * t) 1 ∧ s.2.1 (42 + 2 * t) 2 = μ.1 (11 + 2 * t) 2 ∧ ∀ j, j < 10 → s.2.1 (42 + 2 * t + 1) j = μ.1 (11 + 2 * t + 1) j) 8 ?_ ?_ 0 (Nat.zero_le _) ⟨rfl, fun _ _ => rfl, fun t ht => absurd ht (Nat.not_lt_zero _)⟩ (by omega)
  · rintro i ⟨x, ν⟩ hi ⟨h1, h2, h3⟩
    simp only at h1 h2 h3
    subst h1
    unfold f_Shop_take_32_1_L53
    try dsimp only
    rw [if_neg (fh_nge (c := 8) (b := 8) rfl hi (by omega)), fh_rq8k hi, fm_bs, if_pos (fh_okU i hi), fh_rq8 hi, fm_bs, if_pos (fh_okT i hi), fm_bind]
    refine (fx_ltake (fh_okU i hi) (fh_okT i hi) (by omega) (by omega) (by omega)).mono ?_
    intro ν2 ⟨g1, g2, g3, g4⟩
    rw [fm_nm, fm_some, fm_Kl]
    refine ⟨nI_1 i, fun k hk => by rw [g1 k (by omega) (by omega)]; exact h2 k (by omega), fun t ht => ?_⟩
    by_cases e : t < i
    · rw [g1 _ (by omega) (by omega), g1 _ (by omega) (by omega)]
      exact h3 t e
    · have e2 : t = i := by omega
      subst e2
      refine ⟨g2.trans (by rw [h2 _ (by omega)]), g3.trans (by rw [h2 _ (by omega)]), fun j hj => (g4 j hj).trans (by rw [h2 _ (by omega)])⟩
  · rintro ⟨x, ν⟩ ⟨h1, h2, h3⟩
    simp only at h1 h2 h3
    subst h1
    unfold f_Shop_take_32_1_L53
    try dsimp only
    rw [if_pos (show (8 : Int32) ≤ nI 8 by decide), fm_some, fm_Kr]
    exact ⟨fun k hk => h2 k (by omega), h3⟩
theorem fx_sh_32 {μ : fw_M} {C : fm_C} (wc : wC C) (h : xS 1 μ C) : fm_T (f_Shop_take_32_1 μ) (fun ν => (∀ k, k < 32 ∨ 62 < k → ν.1 k = μ.1 k) ∧ xS 32 ν C) := by
  obtain ⟨w1, w2, w3, w4, w5, w6⟩ := wc
  obtain ⟨a1, a2, a3, a4, a5, a6⟩ := h
  unfold f_Shop_take_32_1
  rw [fm_bind]
  refine (fx_ct_32 w1 a1).mono ?_
  intro ν1 ⟨F1, b1⟩
  rw [fm_bind]
  refine (fx_ltake (t0 := 37) (t1 := 6) (μ := ν1) ⟨rfl, rfl⟩ ⟨rfl, rfl⟩ (by decide) (by decide) (by decide)).mono ?_
  intro ν2 ⟨F2, g1, g2, g3⟩
  rw [show (12 : Int32) = nI 12 from rfl, fm_cpz (n := 12) (Nat.le_refl _) (Nat.le_refl _) (by omega) (by omega), fm_bs, show (3 : Int32) = nI 3 from rfl, fm_cpz (n := 3) (Nat.le_refl _) (Nat.le_refl _) (by omega) (by omega), fm_bs]
  generalize hμ3 : fw_wc (fw_wc ν2 39 (va_cpy (ν2.1 8) (ν2.1 39) 0 0 12)) 40 (va_cpy ((fw_wc ν2 39 (va_cpy (ν2.1 8) (ν2.1 39) 0 0 12)).1 9) ((fw_wc ν2 39 (va_cpy (ν2.1 8) (ν2.1 39) 0 0 12)).1 40) 0 0 3) = ν3
  have F3 : ∀ k, k ≠ 39 → k ≠ 40 → ν3.1 k = ν2.1 k := fun k k1 k2 => by rw [← hμ3, fm_wcn k2, fm_wcn k1]
  have v7 : ∀ i, i < 12 → ν3.1 39 i = ν2.1 8 i := fun i hi => by rw [← hμ3, fm_wcn (by decide), fm_wcs, fm_cpy0 hi]
  have v8 : ∀ i, i < 3 → ν3.1 40 i = ν2.1 9 i := fun i hi => by rw [← hμ3, fm_wcs, fm_cpy0 hi, fm_wcn (by decide)]
  rw [fm_bind]
  refine (fx_tx_32 (μ := ν3)).mono ?_
  intro ν4 ⟨F4, tx⟩
  rw [show (8 : Int32) = nI 8 from rfl, fm_cpz (n := 8) (Nat.le_refl _) (Nat.le_refl _) (by omega) (by omega), fm_bs, fm_nm, fm_bind]
  generalize hμ5 : fw_wr (fw_wc ν4 58 (va_cpy (ν4.1 27) (ν4.1 58) 0 0 8)) 32 6 ((fw_wc ν4 58 (va_cpy (ν4.1 27) (ν4.1 58) 0 0 8)).1 1 6) = ν5
  have F5 : ∀ k, k ≠ 32 → k ≠ 58 → ν5.1 k = ν4.1 k := fun k k1 k2 => by rw [← hμ5, fm_wrn k1, fm_wcn k2]
  have v6 : ν5.1 32 6 = ν4.1 1 6 := by rw [← hμ5, fm_wr, if_pos ⟨rfl, rfl⟩, fm_wcn (by decide)]
  have v26 : ∀ i, i < 8 → ν5.1 58 i = ν4.1 27 i := fun i hi => by rw [← hμ5, fm_wrn (by decide), fm_wcs, fm_cpy0 hi]
  have S4 : ∀ k, (1 ≤ k ∧ k ≤ 31) → ν4.1 k = μ.1 k := fun k hk => by rw [F4 k (by omega), F3 k (by omega) (by omega), F2 k (by omega) (by omega), F1 k (by simp; omega)]
  have S3 : ∀ k, (1 ≤ k ∧ k ≤ 31) → ν3.1 k = μ.1 k := fun k hk => by rw [F3 k (by omega) (by omega), F2 k (by omega) (by omega), F1 k (by simp; omega)]
  have S2 : ∀ k, (1 ≤ k ∧ k ≤ 31) → ν2.1 k = μ.1 k := fun k hk => by rw [F2 k (by omega) (by omega), F1 k (by simp; omega)]
  have S1 : ∀ k, (1 ≤ k ∧ k ≤ 31) → ν1.1 k = μ.1 k := fun k hk => by rw [F1 k (by simp; omega)]
  refine (fx_jt_32 (μ := ν5) (J := C.2.2.2.2.2) w6 ?_).mono ?_
  · rw [F5 28 (by decide) (by decide), F5 29 (by decide) (by decide), F5 30 (by decide) (by decide), S4 28 (by decide), S4 29 (by decide), S4 30 (by decide)]
    exact a6
  · intro ν6 ⟨F6, b6⟩
    rw [fm_some]
    have D6 : ∀ k, k ≠ 59 → k ≠ 60 → k ≠ 61 → ν6.1 k = ν5.1 k := fun k k1 k2 k3 => F6 k (by simp; omega)
    refine ⟨fun k hk => ?_, ?_, ?_, ?_, ?_, ⟨?_, ?_⟩, b6⟩
    · rw [D6 k (by omega) (by omega) (by omega), F5 k (by omega) (by omega), F4 k (by omega), F3 k (by omega) (by omega), F2 k (by omega) (by omega), F1 k (by simp; omega)]
    · have e : ∀ k, (33 ≤ k ∧ k ≤ 36) → ν6.1 k = ν1.1 k := fun k hk => by rw [D6 k (by omega) (by omega) (by omega), F5 k (by omega) (by omega), F4 k (by omega), F3 k (by omega) (by omega), F2 k (by omega) (by omega)]
      show rT (ν6.1 33 3) (ν6.1 34) (ν6.1 35) (ν6.1 36) C.1
      rw [e 33 (by decide), e 34 (by decide), e 35 (by decide), e 36 (by decide)]
      exact b1
    · have e : ∀ k, (37 ≤ k ∧ k ≤ 38) → ν6.1 k = ν2.1 k := fun k hk => by rw [D6 k (by omega) (by omega) (by omega), F5 k (by omega) (by omega), F4 k (by omega), F3 k (by omega) (by omega)]
      refine xL.tk (t1 := 6) (μ := μ) w2 a2 ?_ ?_ (fun i hi => ?_)
      · rw [e _ (by decide)]; exact g1.trans (by rw [S1 _ (by decide)])
      · rw [e _ (by decide)]; exact g2.trans (by rw [S1 _ (by decide)])
      · rw [e _ (by decide)]; exact (g3 i hi).trans (by rw [S1 _ (by decide)])
    · intro i hi
      show ν6.1 39 i = _
      rw [D6 39 (by decide) (by decide) (by decide), F5 39 (by decide) (by decide), F4 39 (by decide), v7 i hi, S2 8 (by decide)]
      exact a3 i hi
    · intro i hi
      show ν6.1 40 i = _
      rw [D6 40 (by decide) (by decide) (by decide), F5 40 (by decide) (by decide), F4 40 (by decide), v8 i hi, S2 9 (by decide)]
      exact a4 i hi
    · rw [D6 32 (by decide) (by decide) (by decide), v6, S4 1 (by decide)]; exact a5.1
    · intro t ht
      have h8 := w5.1
      obtain ⟨t1, t2, t3⟩ := tx t (by omega)
      have e : ∀ k, (42 ≤ k ∧ k ≤ 57) → ν6.1 k = ν4.1 k := fun k hk => by rw [D6 k (by omega) (by omega) (by omega), F5 k (by omega) (by omega)]
      refine ⟨xL.tk (t1 := 1 + 10 + 2 * t) (μ := μ) (w5.2 t ht).2.1 (a5.2 t ht).1 ?_ ?_ (fun i hi => ?_), ?_⟩
      · rw [e _ (by omega), show 32 + 10 + 2 * t = 42 + 2 * t by omega, t1, S3 _ (by omega), show 1 + 10 + 2 * t = 11 + 2 * t by omega]
      · rw [e _ (by omega), show 32 + 10 + 2 * t = 42 + 2 * t by omega, t2, S3 _ (by omega), show 1 + 10 + 2 * t = 11 + 2 * t by omega]
      · rw [e _ (by omega), show 32 + 10 + 2 * t = 42 + 2 * t by omega, t3 i hi, S3 _ (by omega), show 1 + 10 + 2 * t = 11 + 2 * t by omega]
      · show ν6.1 58 t = _
        rw [D6 58 (by decide) (by decide) (by decide), v26 t (by omega), S4 27 (by decide)]
        exact (a5.2 t ht).2
theorem fx_ct_1 {μ : fw_M} {T : List fm_Ty} (wt : wT T) (h : rT (μ.1 33 3) (μ.1 34) (μ.1 35) (μ.1 36) T) : fm_T (f_Case_take_2_33 μ) (fun ν => fm_F [2, 3, 4, 5] μ ν ∧ rT (ν.1 2 3) (ν.1 3) (ν.1 4) (ν.1 5) T) := by
  have h10 := wt.1
  unfold f_Case_take_2_33
  rw [show (10 : Int32) = nI 10 from rfl, fm_cpz (n := 10) (Nat.le_refl _) (Nat.le_refl _) (by omega) (by omega), fm_bs, fm_cpz (n := 10) (Nat.le_refl _) (Nat.le_refl _) (by omega) (by omega), fm_bs, fm_cpz (n := 10) (Nat.le_refl _) (Nat.le_refl _) (by omega) (by omega), fm_bs, fm_nm, fm_some]
  refine ⟨(((fm_F.rf.wc).wc).wc).wr, ?_, fun i hi => ⟨?_, ?_, ?_⟩⟩
  · rw [fm_wr, if_pos ⟨rfl, rfl⟩, fm_wcn (by decide), fm_wcn (by decide), fm_wcn (by decide)]; exact h.1
  · rw [fm_wrn (by decide), fm_wcn (by decide), fm_wcn (by decide), fm_wcs, fm_cpy0 (by omega)]; exact (h.2 i hi).1
  · rw [fm_wrn (by decide), fm_wcn (by decide), fm_wcs, fm_cpy0 (by omega), fm_wcn (by decide)]; exact (h.2 i hi).2.1
  · rw [fm_wrn (by decide), fm_wcs, fm_cpy0 (by omega), fm_wcn (by decide), fm_wcn (by decide)]; exact (h.2 i hi).2.2
theorem fx_jt_1 {μ : fw_M} {J : List (Nat × Nat)} (wj : wJ J) (h : rJ (μ.1 59 3) (μ.1 60) (μ.1 61) J) : fm_T (f_Jobs_take_28_59 μ) (fun ν => fm_F [28, 29, 30] μ ν ∧ rJ (ν.1 28 3) (ν.1 29) (ν.1 30) J) := by
  have h8 := wj.1
  unfold f_Jobs_take_28_59
  rw [show (8 : Int32) = nI 8 from rfl, fm_cpz (n := 8) (Nat.le_refl _) (Nat.le_refl _) (by omega) (by omega), fm_bs, fm_cpz (n := 8) (Nat.le_refl _) (Nat.le_refl _) (by omega) (by omega), fm_bs, fm_nm, fm_some]
  refine ⟨((fm_F.rf.wc).wc).wr, ?_, fun i hi => ⟨?_, ?_⟩⟩
  · rw [fm_wr, if_pos ⟨rfl, rfl⟩, fm_wcn (by decide), fm_wcn (by decide)]; exact h.1
  · rw [fm_wrn (by decide), fm_wcn (by decide), fm_wcs, fm_cpy0 (by omega)]; exact (h.2 i hi).1
  · rw [fm_wrn (by decide), fm_wcs, fm_cpy0 (by omega), fm_wcn (by decide)]; exact (h.2 i hi).2
theorem fx_tx_1 {μ : fw_M} : fm_T (fw_wh f_Shop_take_1_32_L53 fw_N (0, μ)) (fun ν => (∀ k, k < 11 ∨ 26 < k → ν.1 k = μ.1 k) ∧ ∀ t, t < 8 → ν.1 (11 + 2 * t) 1 = μ.1 (42 + 2 * t) 1 ∧ ν.1 (11 + 2 * t) 2 = μ.1 (42 + 2 * t) 2 ∧ ∀ i, i < 10 → ν.1 (11 + 2 * t + 1) i = μ.1 (42 + 2 * t + 1) i) := by
  refine fm_up (P := fun i s => s.1 = nI i ∧ (∀ k, k < 11 ∨ 11 + 2 * i ≤ k → s.2.1 k = μ.1 k) ∧ ∀ t, t < i → s.2.1 (11 + 2 * t) 1 = μ.1 (42 + 2 * t) 1 ∧ s.2.1 (11 + 2 * t) 2 = μ.1 (42 + 2 * t) 2 ∧ ∀ j, j < 10 → s.2.1 (11 + 2 * t + 1) j = μ.1 (42 + 2 * t + 1) j) 8 ?_ ?_ 0 (Nat.zero_le _) ⟨rfl, fun _ _ => rfl, fun t ht => absurd ht (Nat.not_lt_zero _)⟩ (by omega)
  · rintro i ⟨x, ν⟩ hi ⟨h1, h2, h3⟩
    simp only at h1 h2 h3
    subst h1
    unfold f_Shop_take_1_32_L53
    try dsimp only
    rw [if_neg (fh_nge (c := 8) (b := 8) rfl hi (by omega)), fh_rq8 hi, fm_bs, if_pos (fh_okT i hi), fh_rq8k hi, fm_bs, if_pos (fh_okU i hi), fm_bind]
    refine (fx_ltake (fh_okT i hi) (fh_okU i hi) (by omega) (by omega) (by omega)).mono ?_
    intro ν2 ⟨g1, g2, g3, g4⟩
    rw [fm_nm, fm_some, fm_Kl]
    refine ⟨nI_1 i, fun k hk => by rw [g1 k (by omega) (by omega)]; exact h2 k (by omega), fun t ht => ?_⟩
    by_cases e : t < i
    · rw [g1 _ (by omega) (by omega), g1 _ (by omega) (by omega)]
      exact h3 t e
    · have e2 : t = i := by omega
      subst e2
      refine ⟨g2.trans (by rw [h2 _ (by omega)]), g3.trans (by rw [h2 _ (by omega)]), fun j hj => (g4 j hj).trans (by rw [h2 _ (by omega)])⟩
  · rintro ⟨x, ν⟩ ⟨h1, h2, h3⟩
    simp only at h1 h2 h3
    subst h1
    unfold f_Shop_take_1_32_L53
    try dsimp only
    rw [if_pos (show (8 : Int32) ≤ nI 8 by decide), fm_some, fm_Kr]
    exact ⟨fun k hk => h2 k (by omega), h3⟩
theorem fx_sh_1 {μ : fw_M} {C : fm_C} (wc : wC C) (h : xS 32 μ C) : fm_T (f_Shop_take_1_32 μ) (fun ν => (∀ k, k < 1 ∨ 31 < k → ν.1 k = μ.1 k) ∧ xS 1 ν C) := by
  obtain ⟨w1, w2, w3, w4, w5, w6⟩ := wc
  obtain ⟨a1, a2, a3, a4, a5, a6⟩ := h
  unfold f_Shop_take_1_32
  rw [fm_bind]
  refine (fx_ct_1 w1 a1).mono ?_
  intro ν1 ⟨F1, b1⟩
  rw [fm_bind]
  refine (fx_ltake (t0 := 6) (t1 := 37) (μ := ν1) ⟨rfl, rfl⟩ ⟨rfl, rfl⟩ (by decide) (by decide) (by decide)).mono ?_
  intro ν2 ⟨F2, g1, g2, g3⟩
  rw [show (12 : Int32) = nI 12 from rfl, fm_cpz (n := 12) (Nat.le_refl _) (Nat.le_refl _) (by omega) (by omega), fm_bs, show (3 : Int32) = nI 3 from rfl, fm_cpz (n := 3) (Nat.le_refl _) (Nat.le_refl _) (by omega) (by omega), fm_bs]
  generalize hμ3 : fw_wc (fw_wc ν2 8 (va_cpy (ν2.1 39) (ν2.1 8) 0 0 12)) 9 (va_cpy ((fw_wc ν2 8 (va_cpy (ν2.1 39) (ν2.1 8) 0 0 12)).1 40) ((fw_wc ν2 8 (va_cpy (ν2.1 39) (ν2.1 8) 0 0 12)).1 9) 0 0 3) = ν3
  have F3 : ∀ k, k ≠ 8 → k ≠ 9 → ν3.1 k = ν2.1 k := fun k k1 k2 => by rw [← hμ3, fm_wcn k2, fm_wcn k1]
  have v7 : ∀ i, i < 12 → ν3.1 8 i = ν2.1 39 i := fun i hi => by rw [← hμ3, fm_wcn (by decide), fm_wcs, fm_cpy0 hi]
  have v8 : ∀ i, i < 3 → ν3.1 9 i = ν2.1 40 i := fun i hi => by rw [← hμ3, fm_wcs, fm_cpy0 hi, fm_wcn (by decide)]
  rw [fm_bind]
  refine (fx_tx_1 (μ := ν3)).mono ?_
  intro ν4 ⟨F4, tx⟩
  rw [show (8 : Int32) = nI 8 from rfl, fm_cpz (n := 8) (Nat.le_refl _) (Nat.le_refl _) (by omega) (by omega), fm_bs, fm_nm, fm_bind]
  generalize hμ5 : fw_wr (fw_wc ν4 27 (va_cpy (ν4.1 58) (ν4.1 27) 0 0 8)) 1 6 ((fw_wc ν4 27 (va_cpy (ν4.1 58) (ν4.1 27) 0 0 8)).1 32 6) = ν5
  have F5 : ∀ k, k ≠ 1 → k ≠ 27 → ν5.1 k = ν4.1 k := fun k k1 k2 => by rw [← hμ5, fm_wrn k1, fm_wcn k2]
  have v6 : ν5.1 1 6 = ν4.1 32 6 := by rw [← hμ5, fm_wr, if_pos ⟨rfl, rfl⟩, fm_wcn (by decide)]
  have v26 : ∀ i, i < 8 → ν5.1 27 i = ν4.1 58 i := fun i hi => by rw [← hμ5, fm_wrn (by decide), fm_wcs, fm_cpy0 hi]
  have S4 : ∀ k, (32 ≤ k ∧ k ≤ 62) → ν4.1 k = μ.1 k := fun k hk => by rw [F4 k (by omega), F3 k (by omega) (by omega), F2 k (by omega) (by omega), F1 k (by simp; omega)]
  have S3 : ∀ k, (32 ≤ k ∧ k ≤ 62) → ν3.1 k = μ.1 k := fun k hk => by rw [F3 k (by omega) (by omega), F2 k (by omega) (by omega), F1 k (by simp; omega)]
  have S2 : ∀ k, (32 ≤ k ∧ k ≤ 62) → ν2.1 k = μ.1 k := fun k hk => by rw [F2 k (by omega) (by omega), F1 k (by simp; omega)]
  have S1 : ∀ k, (32 ≤ k ∧ k ≤ 62) → ν1.1 k = μ.1 k := fun k hk => by rw [F1 k (by simp; omega)]
  refine (fx_jt_1 (μ := ν5) (J := C.2.2.2.2.2) w6 ?_).mono ?_
  · rw [F5 59 (by decide) (by decide), F5 60 (by decide) (by decide), F5 61 (by decide) (by decide), S4 59 (by decide), S4 60 (by decide), S4 61 (by decide)]
    exact a6
  · intro ν6 ⟨F6, b6⟩
    rw [fm_some]
    have D6 : ∀ k, k ≠ 28 → k ≠ 29 → k ≠ 30 → ν6.1 k = ν5.1 k := fun k k1 k2 k3 => F6 k (by simp; omega)
    refine ⟨fun k hk => ?_, ?_, ?_, ?_, ?_, ⟨?_, ?_⟩, b6⟩
    · rw [D6 k (by omega) (by omega) (by omega), F5 k (by omega) (by omega), F4 k (by omega), F3 k (by omega) (by omega), F2 k (by omega) (by omega), F1 k (by simp; omega)]
    · have e : ∀ k, (2 ≤ k ∧ k ≤ 5) → ν6.1 k = ν1.1 k := fun k hk => by rw [D6 k (by omega) (by omega) (by omega), F5 k (by omega) (by omega), F4 k (by omega), F3 k (by omega) (by omega), F2 k (by omega) (by omega)]
      show rT (ν6.1 2 3) (ν6.1 3) (ν6.1 4) (ν6.1 5) C.1
      rw [e 2 (by decide), e 3 (by decide), e 4 (by decide), e 5 (by decide)]
      exact b1
    · have e : ∀ k, (6 ≤ k ∧ k ≤ 7) → ν6.1 k = ν2.1 k := fun k hk => by rw [D6 k (by omega) (by omega) (by omega), F5 k (by omega) (by omega), F4 k (by omega), F3 k (by omega) (by omega)]
      refine xL.tk (t1 := 37) (μ := μ) w2 a2 ?_ ?_ (fun i hi => ?_)
      · rw [e _ (by decide)]; exact g1.trans (by rw [S1 _ (by decide)])
      · rw [e _ (by decide)]; exact g2.trans (by rw [S1 _ (by decide)])
      · rw [e _ (by decide)]; exact (g3 i hi).trans (by rw [S1 _ (by decide)])
    · intro i hi
      show ν6.1 8 i = _
      rw [D6 8 (by decide) (by decide) (by decide), F5 8 (by decide) (by decide), F4 8 (by decide), v7 i hi, S2 39 (by decide)]
      exact a3 i hi
    · intro i hi
      show ν6.1 9 i = _
      rw [D6 9 (by decide) (by decide) (by decide), F5 9 (by decide) (by decide), F4 9 (by decide), v8 i hi, S2 40 (by decide)]
      exact a4 i hi
    · rw [D6 1 (by decide) (by decide) (by decide), v6, S4 32 (by decide)]; exact a5.1
    · intro t ht
      have h8 := w5.1
      obtain ⟨t1, t2, t3⟩ := tx t (by omega)
      have e : ∀ k, (11 ≤ k ∧ k ≤ 26) → ν6.1 k = ν4.1 k := fun k hk => by rw [D6 k (by omega) (by omega) (by omega), F5 k (by omega) (by omega)]
      refine ⟨xL.tk (t1 := 32 + 10 + 2 * t) (μ := μ) (w5.2 t ht).2.1 (a5.2 t ht).1 ?_ ?_ (fun i hi => ?_), ?_⟩
      · rw [e _ (by omega), show 1 + 10 + 2 * t = 11 + 2 * t by omega, t1, S3 _ (by omega), show 32 + 10 + 2 * t = 42 + 2 * t by omega]
      · rw [e _ (by omega), show 1 + 10 + 2 * t = 11 + 2 * t by omega, t2, S3 _ (by omega), show 32 + 10 + 2 * t = 42 + 2 * t by omega]
      · rw [e _ (by omega), show 1 + 10 + 2 * t = 11 + 2 * t by omega, t3 i hi, S3 _ (by omega), show 32 + 10 + 2 * t = 42 + 2 * t by omega]
      · show ν6.1 27 t = _
        rw [D6 27 (by decide) (by decide) (by decide), v26 t (by omega), S4 58 (by decide)]
        exact (a5.2 t ht).2
/-! image, restore: the reference -/
def fm_nn (k : Nat) : Nat := match k with
  | 4 => 12
  | 5 => 3
  | 7 => 104
  | 8 => 8
  | 9 => 8
  | _ => 10
theorem mS.cong2 {g g2 : Nat → Nat → Int32} {C : fm_C} (wc : wC C) (h : mS g C) (h0 : ∀ j, j = 0 ∨ j = 6 ∨ j = 8 ∨ j = 9 ∨ j = 11 → g2 0 j = g 0 j) (hk : ∀ k, 1 ≤ k → k ≤ 9 → ∀ j, j < fm_nn k → g2 k j = g k j) : mS g2 C := by
  obtain ⟨w1, w2, w3, w4, w5, w6⟩ := wc
  obtain ⟨a1, a2, a3, a4, a5, a6⟩ := h
  have q1 := w1.1
  have q2 := w2.1
  have q5 := w5.1
  have q6 := w6.1
  refine ⟨⟨(h0 0 (by decide)).trans a1.1, fun i hi => ⟨?_, ?_, ?_⟩⟩, ⟨⟨(h0 6 (by decide)).trans a2.1.1, fun i hi => ?_⟩, (h0 8 (by decide)).trans a2.2⟩, fun i hi => ?_, fun i hi => ?_, ⟨(h0 9 (by decide)).trans a5.1, fun t ht => ?_⟩, ⟨(h0 11 (by decide)).trans a6.1, fun i hi => ⟨?_, ?_⟩⟩⟩
  · exact (hk 1 (by decide) (by decide) i (show i < 10 by omega)).trans (a1.2 i hi).1
  · exact (hk 2 (by decide) (by decide) i (show i < 10 by omega)).trans (a1.2 i hi).2.1
  · exact (hk 3 (by decide) (by decide) i (show i < 10 by omega)).trans (a1.2 i hi).2.2
  · exact (hk 6 (by decide) (by decide) i (show i < 10 by omega)).trans (a2.1.2 i hi)
  · exact (hk 4 (by decide) (by decide) i hi).trans (a3 i hi)
  · exact (hk 5 (by decide) (by decide) i hi).trans (a4 i hi)
  · obtain ⟨b1, b2, b3, b4⟩ := a5.2 t ht
    have q7 := (w5.2 t ht).2.1.1
    have c : ∀ j, j < 104 → g2 7 j = g 7 j := hk 7 (by decide) (by decide)
    refine ⟨(c _ (by omega)).trans b1, (c _ (by omega)).trans b2, (c _ (by omega)).trans b3, fun p hp => (c _ (by omega)).trans (b4 p hp)⟩
  · exact (hk 8 (by decide) (by decide) i (show i < 8 by omega)).trans (a6.2 i hi).1
  · exact (hk 9 (by decide) (by decide) i (show i < 8 by omega)).trans (a6.2 i hi).2
theorem fy_lay {F : Nat → Int32} {k n a : Nat} {μ ν : fw_M} (hk : fw_Mo[k]? = some (.inr (0, n, []))) (k23 : k ≠ 23) (ha : a + n ≤ 190) (fr : fm_F [23] μ ν) (hF : ∀ j, j < a → ν.1 23 j = F j) (hc : ∀ j, j < n → F (a + j) = μ.1 k j) : fm_T (f_M_lay k n (nI a) ν) (fun p => p.1 = nI (a + n) ∧ fm_F [23] μ p.2 ∧ ∀ j, j < a + n → p.2.1 23 j = F j) := by
  unfold f_M_lay
  rw [if_pos hk, fm_bind]
  refine fm_up (P := fun i s => s.1 = nI i ∧ fm_F [23] μ s.2 ∧ ∀ j, j < a + i → s.2.1 23 j = F j) n ?_ ?_ 0 (Nat.zero_le _) ⟨rfl, fr, hF⟩ (by omega)
  · rintro i ⟨x, ν⟩ hi ⟨h1, h2, h3⟩
    simp only at h1 h2 h3
    subst h1
    unfold f_M_lay_L2
    try dsimp only
    rw [if_neg (nI_ge hi (by omega)), fm_rd hi (by omega), fm_bs, nI_add, fm_si (by omega) (by omega), fm_bs, fm_nm, fm_some, fm_Kl]
    refine ⟨nI_1 i, h2.wr, fun j hj => ?_⟩
    by_cases e : j = a + i
    · simp only [fm_wr, e, and_self, if_true]
      rw [hc i hi, h2 k (by simpa using k23)]
    · simp only [fm_wr, e, and_false, if_false]
      exact h3 j (by omega)
  · rintro ⟨x, ν⟩ ⟨h1, h2, h3⟩
    simp only at h1 h2 h3
    subst h1
    unfold f_M_lay_L2
    try dsimp only
    rw [if_pos (nI_le (Nat.le_refl _) (by omega)), fm_some, fm_Kr, fm_some]
    exact ⟨by rw [nI_add], h2, h3⟩
theorem fy_give {k n a : Nat} {ν : fw_M} (hk : fw_Mo[k]? = some (.inr (0, n, []))) (k23 : k ≠ 23) (ha : a + n ≤ 190) : fm_T (f_M_gives (nI a) k n ν) (fun p => p.1 = nI (a + n) ∧ fm_F [k] ν p.2 ∧ ∀ j, j < n → p.2.1 k j = ν.1 23 (a + j)) := by
  unfold f_M_gives
  rw [if_pos hk, fm_bind]
  refine fm_up (P := fun i s => s.1 = nI i ∧ fm_F [k] ν s.2 ∧ ∀ j, j < i → s.2.1 k j = ν.1 23 (a + j)) n ?_ ?_ 0 (Nat.zero_le _) ⟨rfl, fm_F.rf, fun j hj => absurd hj (Nat.not_lt_zero _)⟩ (by omega)
  · rintro i ⟨x, ξ⟩ hi ⟨h1, h2, h3⟩
    simp only at h1 h2 h3
    subst h1
    unfold f_M_gives_L2
    try dsimp only
    rw [if_neg (nI_ge hi (by omega)), nI_add, fm_rd (by omega) (by omega), fm_bs, fm_si hi (by omega), fm_bs, fm_nm, fm_some, fm_Kl]
    refine ⟨nI_1 i, h2.wr (by simp), fun j hj => ?_⟩
    by_cases e : j = i
    · simp only [fm_wr, e, and_self, if_true]
      rw [h2 23 (by simpa using fun q => k23 q.symm)]
    · simp only [fm_wr, e, and_false, if_false]
      exact h3 j (by omega)
  · rintro ⟨x, ξ⟩ ⟨h1, h2, h3⟩
    simp only at h1 h2 h3
    subst h1
    unfold f_M_gives_L2
    try dsimp only
    rw [if_pos (nI_le (Nat.le_refl _) (by omega)), fm_some, fm_Kr, fm_some]
    exact ⟨by rw [nI_add], h2, h3⟩
def fm_lo (μ : fw_M) (j : Nat) : Int32 := if j < 10 then μ.1 1 (j - 0) else if j < 20 then μ.1 2 (j - 10) else if j < 30 then μ.1 3 (j - 20) else if j < 42 then μ.1 4 (j - 30) else if j < 45 then μ.1 5 (j - 42) else if j < 55 then μ.1 6 (j - 45) else if j < 159 then μ.1 7 (j - 55) else if j < 167 then μ.1 8 (j - 159) else if j < 175 then μ.1 9 (j - 167) else if j = 175 then μ.1 0 0 else if j = 176 then μ.1 0 6 else if j = 177 then μ.1 0 8 else if j = 178 then μ.1 0 9 else μ.1 0 11
theorem fm_lo1 (μ : fw_M) : ∀ j, j < 10 → fm_lo μ (0 + j) = μ.1 1 j := by
  intro j hj
  unfold fm_lo
  rw [if_pos (by omega), show 0 + j - 0 = j by omega]
theorem fm_lo2 (μ : fw_M) : ∀ j, j < 10 → fm_lo μ (10 + j) = μ.1 2 j := by
  intro j hj
  unfold fm_lo
  rw [if_neg (by omega), if_pos (by omega), show 10 + j - 10 = j by omega]
theorem fm_lo3 (μ : fw_M) : ∀ j, j < 10 → fm_lo μ (20 + j) = μ.1 3 j := by
  intro j hj
  unfold fm_lo
  rw [if_neg (by omega), if_neg (by omega), if_pos (by omega), show 20 + j - 20 = j by omega]
theorem fm_lo4 (μ : fw_M) : ∀ j, j < 12 → fm_lo μ (30 + j) = μ.1 4 j := by
  intro j hj
  unfold fm_lo
  rw [if_neg (by omega), if_neg (by omega), if_neg (by omega), if_pos (by omega), show 30 + j - 30 = j by omega]
theorem fm_lo5 (μ : fw_M) : ∀ j, j < 3 → fm_lo μ (42 + j) = μ.1 5 j := by
  intro j hj
  unfold fm_lo
  rw [if_neg (by omega), if_neg (by omega), if_neg (by omega), if_neg (by omega), if_pos (by omega), show 42 + j - 42 = j by omega]
theorem fm_lo6 (μ : fw_M) : ∀ j, j < 10 → fm_lo μ (45 + j) = μ.1 6 j := by
  intro j hj
  unfold fm_lo
  rw [if_neg (by omega), if_neg (by omega), if_neg (by omega), if_neg (by omega), if_neg (by omega), if_pos (by omega), show 45 + j - 45 = j by omega]
theorem fm_lo7 (μ : fw_M) : ∀ j, j < 104 → fm_lo μ (55 + j) = μ.1 7 j := by
  intro j hj
  unfold fm_lo
  rw [if_neg (by omega), if_neg (by omega), if_neg (by omega), if_neg (by omega), if_neg (by omega), if_neg (by omega), if_pos (by omega), show 55 + j - 55 = j by omega]
theorem fm_lo8 (μ : fw_M) : ∀ j, j < 8 → fm_lo μ (159 + j) = μ.1 8 j := by
  intro j hj
  unfold fm_lo
  rw [if_neg (by omega), if_neg (by omega), if_neg (by omega), if_neg (by omega), if_neg (by omega), if_neg (by omega), if_neg (by omega), if_pos (by omega), show 159 + j - 159 = j by omega]
theorem fm_lo9 (μ : fw_M) : ∀ j, j < 8 → fm_lo μ (167 + j) = μ.1 9 j := by
  intro j hj
  unfold fm_lo
  rw [if_neg (by omega), if_neg (by omega), if_neg (by omega), if_neg (by omega), if_neg (by omega), if_neg (by omega), if_neg (by omega), if_neg (by omega), if_pos (by omega), show 167 + j - 167 = j by omega]
theorem fy_image {μ : fw_M} {C : fm_C} (wc : wC C) (h : mS μ.1 C) : fm_T (f_M_image μ) (fun p => p.1 = 1 ∧ fm_F [0, 23] μ p.2 ∧ (∀ j, j ≠ 32 → p.2.1 0 j = μ.1 0 j) ∧ p.2.1 0 32 = 1 ∧ mS (fm_im (p.2.1 23)) C) := by
  unfold f_M_image
  rw [fm_bind]
  refine (fy_lay (F := fm_lo μ) (k := 1) (n := 10) (a := 0) (μ := μ) (ν := μ) rfl (by decide) (by decide) fm_F.rf (fun j hj => absurd hj (Nat.not_lt_zero _)) (fm_lo1 μ)).mono ?_
  rintro ⟨r1, ν1⟩ ⟨e1, G1, v1⟩
  simp only [Nat.reduceAdd] at e1 G1 v1
  subst e1
  simp only
  rw [fm_bind]
  refine (fy_lay (F := fm_lo μ) (k := 2) (n := 10) (a := 10) (μ := μ) (ν := ν1) rfl (by decide) (by decide) G1 v1 (fm_lo2 μ)).mono ?_
  rintro ⟨r2, ν2⟩ ⟨e2, G2, v2⟩
  simp only [Nat.reduceAdd] at e2 G2 v2
  subst e2
  simp only
  rw [fm_bind]
  refine (fy_lay (F := fm_lo μ) (k := 3) (n := 10) (a := 20) (μ := μ) (ν := ν2) rfl (by decide) (by decide) G2 v2 (fm_lo3 μ)).mono ?_
  rintro ⟨r3, ν3⟩ ⟨e3, G3, v3⟩
  simp only [Nat.reduceAdd] at e3 G3 v3
  subst e3
  simp only
  rw [fm_bind]
  refine (fy_lay (F := fm_lo μ) (k := 4) (n := 12) (a := 30) (μ := μ) (ν := ν3) rfl (by decide) (by decide) G3 v3 (fm_lo4 μ)).mono ?_
  rintro ⟨r4, ν4⟩ ⟨e4, G4, v4⟩
  simp only [Nat.reduceAdd] at e4 G4 v4
  subst e4
  simp only
  rw [fm_bind]
  refine (fy_lay (F := fm_lo μ) (k := 5) (n := 3) (a := 42) (μ := μ) (ν := ν4) rfl (by decide) (by decide) G4 v4 (fm_lo5 μ)).mono ?_
  rintro ⟨r5, ν5⟩ ⟨e5, G5, v5⟩
  simp only [Nat.reduceAdd] at e5 G5 v5
  subst e5
  simp only
  rw [fm_bind]
  refine (fy_lay (F := fm_lo μ) (k := 6) (n := 10) (a := 45) (μ := μ) (ν := ν5) rfl (by decide) (by decide) G5 v5 (fm_lo6 μ)).mono ?_
  rintro ⟨r6, ν6⟩ ⟨e6, G6, v6⟩
  simp only [Nat.reduceAdd] at e6 G6 v6
  subst e6
  simp only
  rw [fm_bind]
  refine (fy_lay (F := fm_lo μ) (k := 7) (n := 104) (a := 55) (μ := μ) (ν := ν6) rfl (by decide) (by decide) G6 v6 (fm_lo7 μ)).mono ?_
  rintro ⟨r7, ν7⟩ ⟨e7, G7, v7⟩
  simp only [Nat.reduceAdd] at e7 G7 v7
  subst e7
  simp only
  rw [fm_bind]
  refine (fy_lay (F := fm_lo μ) (k := 8) (n := 8) (a := 159) (μ := μ) (ν := ν7) rfl (by decide) (by decide) G7 v7 (fm_lo8 μ)).mono ?_
  rintro ⟨r8, ν8⟩ ⟨e8, G8, v8⟩
  simp only [Nat.reduceAdd] at e8 G8 v8
  subst e8
  simp only
  rw [fm_bind]
  refine (fy_lay (F := fm_lo μ) (k := 9) (n := 8) (a := 167) (μ := μ) (ν := ν8) rfl (by decide) (by decide) G8 v8 (fm_lo9 μ)).mono ?_
  rintro ⟨r9, ν9⟩ ⟨e9, G9, v9⟩
  simp only [Nat.reduceAdd] at e9 G9 v9
  subst e9
  simp only
  rw [fm_si (by omega) (by omega), fm_bs, show nI 175 + 1 = nI 176 from nI_1 175, fm_si (by omega) (by omega), fm_bs, show nI 175 + 2 = nI 177 from nI_add 175 2, fm_si (by omega) (by omega), fm_bs, show nI 175 + 3 = nI 178 from nI_add 175 3, fm_si (by omega) (by omega), fm_bs, show nI 175 + 4 = nI 179 from nI_add 175 4, fm_si (by omega) (by omega), fm_bs, fm_nm, fm_some]
  simp only [fm_wrn (show 0 ≠ 23 by decide), G9.at 0]
  refine ⟨trivial, ((((((G9.up).wr).wr).wr).wr).wr).wr, fun j hj => by rw [fm_wr, if_neg (fun q => hj q.2)]; simp only [fm_wrn (show 0 ≠ 23 by decide), G9.at 0], by rw [fm_wr, if_pos ⟨rfl, rfl⟩], ?_⟩
  rw [fm_wrn (show 23 ≠ 0 by decide)]
  generalize hf : (fw_wr (fw_wr (fw_wr (fw_wr (fw_wr ν9 23 175 (μ.1 0 0)) 23 176 (μ.1 0 6)) 23 177 (μ.1 0 8)) 23 178 (μ.1 0 9)) 23 179 (μ.1 0 11)).1 23 = f
  have lo : ∀ j, j < 175 → f j = fm_lo μ j := fun j hj => by
    rw [← hf]
    simp only [fm_wr, true_and]
    rw [if_neg (by omega), if_neg (by omega), if_neg (by omega), if_neg (by omega), if_neg (by omega)]
    exact v9 j hj
  refine mS.cong2 wc h ?_ ?_
  · intro j hj
    rcases hj with rfl | rfl | rfl | rfl | rfl
    · show f 175 = _; rw [← hf]; simp only [fm_wr, Nat.reduceEqDiff, and_false, and_self, if_true, if_false]
    · show f 176 = _; rw [← hf]; simp only [fm_wr, Nat.reduceEqDiff, and_false, and_self, if_true, if_false]
    · show f 177 = _; rw [← hf]; simp only [fm_wr, Nat.reduceEqDiff, and_false, and_self, if_true, if_false]
    · show f 178 = _; rw [← hf]; simp only [fm_wr, Nat.reduceEqDiff, and_false, and_self, if_true, if_false]
    · show f 179 = _; rw [← hf]; simp only [fm_wr, Nat.reduceEqDiff, and_false, and_self, if_true, if_false]
  · intro k k1 k9 j hj
    match k, k1, k9, hj with
    | 1, _, _, hj => have hj2 : j < 10 := hj; show f j = _; rw [lo j (by omega)]; have := fm_lo1 μ j hj2; rw [Nat.zero_add] at this; exact this
    | 2, _, _, hj => have hj2 : j < 10 := hj; show f (10 + j) = _; rw [lo _ (by omega)]; exact fm_lo2 μ j hj2
    | 3, _, _, hj => have hj2 : j < 10 := hj; show f (20 + j) = _; rw [lo _ (by omega)]; exact fm_lo3 μ j hj2
    | 4, _, _, hj => have hj2 : j < 12 := hj; show f (30 + j) = _; rw [lo _ (by omega)]; exact fm_lo4 μ j hj2
    | 5, _, _, hj => have hj2 : j < 3 := hj; show f (42 + j) = _; rw [lo _ (by omega)]; exact fm_lo5 μ j hj2
    | 6, _, _, hj => have hj2 : j < 10 := hj; show f (45 + j) = _; rw [lo _ (by omega)]; exact fm_lo6 μ j hj2
    | 7, _, _, hj => have hj2 : j < 104 := hj; show f (55 + j) = _; rw [lo _ (by omega)]; exact fm_lo7 μ j hj2
    | 8, _, _, hj => have hj2 : j < 8 := hj; show f (159 + j) = _; rw [lo _ (by omega)]; exact fm_lo8 μ j hj2
    | 9, _, _, hj => have hj2 : j < 8 := hj; show f (167 + j) = _; rw [lo _ (by omega)]; exact fm_lo9 μ j hj2
theorem fy_restore {μ : fw_M} {C : fm_C} (wc : wC C) (h32 : μ.1 0 32 = 1) (h : mS (fm_im (μ.1 23)) C) : fm_T (f_M_restore μ) (fun p => p.1 = 1 ∧ fm_F [0, 1, 2, 3, 4, 5, 6, 7, 8, 9] μ p.2 ∧ (∀ j, j ≠ 0 → j ≠ 6 → j ≠ 8 → j ≠ 9 → j ≠ 11 → p.2.1 0 j = μ.1 0 j) ∧ mS p.2.1 C) := by
  unfold f_M_restore
  rw [h32, if_neg fm_n10]
  rw [fm_bind]
  refine (fy_give (k := 1) (n := 10) (a := 0) (ν := μ) rfl (by decide) (by decide)).mono ?_
  rintro ⟨r1, ν1⟩ ⟨e1, G1, v1⟩
  simp only [Nat.reduceAdd] at e1 G1 v1
  subst e1
  simp only
  rw [fm_bind]
  refine (fy_give (k := 2) (n := 10) (a := 10) (ν := ν1) rfl (by decide) (by decide)).mono ?_
  rintro ⟨r2, ν2⟩ ⟨e2, G2, v2⟩
  simp only [Nat.reduceAdd] at e2 G2 v2
  subst e2
  simp only
  rw [fm_bind]
  refine (fy_give (k := 3) (n := 10) (a := 20) (ν := ν2) rfl (by decide) (by decide)).mono ?_
  rintro ⟨r3, ν3⟩ ⟨e3, G3, v3⟩
  simp only [Nat.reduceAdd] at e3 G3 v3
  subst e3
  simp only
  rw [fm_bind]
  refine (fy_give (k := 4) (n := 12) (a := 30) (ν := ν3) rfl (by decide) (by decide)).mono ?_
  rintro ⟨r4, ν4⟩ ⟨e4, G4, v4⟩
  simp only [Nat.reduceAdd] at e4 G4 v4
  subst e4
  simp only
  rw [fm_bind]
  refine (fy_give (k := 5) (n := 3) (a := 42) (ν := ν4) rfl (by decide) (by decide)).mono ?_
  rintro ⟨r5, ν5⟩ ⟨e5, G5, v5⟩
  simp only [Nat.reduceAdd] at e5 G5 v5
  subst e5
  simp only
  rw [fm_bind]
  refine (fy_give (k := 6) (n := 10) (a := 45) (ν := ν5) rfl (by decide) (by decide)).mono ?_
  rintro ⟨r6, ν6⟩ ⟨e6, G6, v6⟩
  simp only [Nat.reduceAdd] at e6 G6 v6
  subst e6
  simp only
  rw [fm_bind]
  refine (fy_give (k := 7) (n := 104) (a := 55) (ν := ν6) rfl (by decide) (by decide)).mono ?_
  rintro ⟨r7, ν7⟩ ⟨e7, G7, v7⟩
  simp only [Nat.reduceAdd] at e7 G7 v7
  subst e7
  simp only
  rw [fm_bind]
  refine (fy_give (k := 8) (n := 8) (a := 159) (ν := ν7) rfl (by decide) (by decide)).mono ?_
  rintro ⟨r8, ν8⟩ ⟨e8, G8, v8⟩
  simp only [Nat.reduceAdd] at e8 G8 v8
  subst e8
  simp only
  rw [fm_bind]
  refine (fy_give (k := 9) (n := 8) (a := 167) (ν := ν8) rfl (by decide) (by decide)).mono ?_
  rintro ⟨r9, ν9⟩ ⟨e9, G9, v9⟩
  simp only [Nat.reduceAdd] at e9 G9 v9
  subst e9
  simp only
  have U : fm_F [0, 1, 2, 3, 4, 5, 6, 7, 8, 9] μ ν9 := (((((((((G1.up : fm_F [0, 1, 2, 3, 4, 5, 6, 7, 8, 9] μ ν1).tr G2.up).tr G3.up).tr G4.up).tr G5.up).tr G6.up).tr G7.up).tr G8.up).tr G9.up)
  have z : ν9.1 0 = μ.1 0 := by rw [G9.at 0, G8.at 0, G7.at 0, G6.at 0, G5.at 0, G4.at 0, G3.at 0, G2.at 0, G1.at 0]
  have t1 : ν1.1 23 = μ.1 23 := by rw [G1.at 23]
  have t2 : ν2.1 23 = μ.1 23 := by rw [G2.at 23, G1.at 23]
  have t3 : ν3.1 23 = μ.1 23 := by rw [G3.at 23, G2.at 23, G1.at 23]
  have t4 : ν4.1 23 = μ.1 23 := by rw [G4.at 23, G3.at 23, G2.at 23, G1.at 23]
  have t5 : ν5.1 23 = μ.1 23 := by rw [G5.at 23, G4.at 23, G3.at 23, G2.at 23, G1.at 23]
  have t6 : ν6.1 23 = μ.1 23 := by rw [G6.at 23, G5.at 23, G4.at 23, G3.at 23, G2.at 23, G1.at 23]
  have t7 : ν7.1 23 = μ.1 23 := by rw [G7.at 23, G6.at 23, G5.at 23, G4.at 23, G3.at 23, G2.at 23, G1.at 23]
  have t8 : ν8.1 23 = μ.1 23 := by rw [G8.at 23, G7.at 23, G6.at 23, G5.at 23, G4.at 23, G3.at 23, G2.at 23, G1.at 23]
  have t9 : ν9.1 23 = μ.1 23 := by rw [G9.at 23, G8.at 23, G7.at 23, G6.at 23, G5.at 23, G4.at 23, G3.at 23, G2.at 23, G1.at 23]
  rw [fm_rd (by omega) (by omega), fm_bs, fm_nm, show nI 175 + 1 = nI 176 from nI_1 175, fm_rd (by omega) (by omega), fm_bs, fm_nm, show nI 175 + 2 = nI 177 from nI_add 175 2, fm_rd (by omega) (by omega), fm_bs, fm_nm, show nI 175 + 3 = nI 178 from nI_add 175 3, fm_rd (by omega) (by omega), fm_bs, fm_nm, show nI 175 + 4 = nI 179 from nI_add 175 4, fm_rd (by omega) (by omega), fm_bs, fm_nm, fm_some]
  simp only [fm_wrn (show 23 ≠ 0 by decide), t9]
  generalize hξ : fw_wr (fw_wr (fw_wr (fw_wr (fw_wr ν9 0 0 (μ.1 23 175)) 0 6 (μ.1 23 176)) 0 8 (μ.1 23 177)) 0 9 (μ.1 23 178)) 0 11 (μ.1 23 179) = ξ
  have n0 : ∀ k, k ≠ 0 → ξ.1 k = ν9.1 k := fun k hk => by rw [← hξ, fm_wrn hk, fm_wrn hk, fm_wrn hk, fm_wrn hk, fm_wrn hk]
  refine ⟨trivial, by rw [← hξ]; exact (((((U).wr).wr).wr).wr).wr, fun j j0 j6 j8 j9 j11 => by rw [← hξ]; simp only [fm_wr, j0, j6, j8, j9, j11, and_false, if_false, z], ?_⟩
  refine mS.cong2 wc h ?_ ?_
  · intro j hj
    rcases hj with rfl | rfl | rfl | rfl | rfl
    · rw [← hξ]; simp only [fm_wr, Nat.reduceEqDiff, and_false, and_self, if_true, if_false]; rfl
    · rw [← hξ]; simp only [fm_wr, Nat.reduceEqDiff, and_false, and_self, if_true, if_false]; rfl
    · rw [← hξ]; simp only [fm_wr, Nat.reduceEqDiff, and_false, and_self, if_true, if_false]; rfl
    · rw [← hξ]; simp only [fm_wr, Nat.reduceEqDiff, and_false, and_self, if_true, if_false]; rfl
    · rw [← hξ]; simp only [fm_wr, Nat.reduceEqDiff, and_false, and_self, if_true, if_false]; rfl
  · intro k k1 k9 j hj
    match k, k1, k9, hj with
    | 1, _, _, hj => have hj2 : j < 10 := hj; rw [n0 1 (by decide), G9.at 1, G8.at 1, G7.at 1, G6.at 1, G5.at 1, G4.at 1, G3.at 1, G2.at 1, v1 j hj2]; rw [Nat.zero_add]; rfl
    | 2, _, _, hj => have hj2 : j < 10 := hj; rw [n0 2 (by decide), G9.at 2, G8.at 2, G7.at 2, G6.at 2, G5.at 2, G4.at 2, G3.at 2, v2 j hj2, t1]; rfl
    | 3, _, _, hj => have hj2 : j < 10 := hj; rw [n0 3 (by decide), G9.at 3, G8.at 3, G7.at 3, G6.at 3, G5.at 3, G4.at 3, v3 j hj2, t2]; rfl
    | 4, _, _, hj => have hj2 : j < 12 := hj; rw [n0 4 (by decide), G9.at 4, G8.at 4, G7.at 4, G6.at 4, G5.at 4, v4 j hj2, t3]; rfl
    | 5, _, _, hj => have hj2 : j < 3 := hj; rw [n0 5 (by decide), G9.at 5, G8.at 5, G7.at 5, G6.at 5, v5 j hj2, t4]; rfl
    | 6, _, _, hj => have hj2 : j < 10 := hj; rw [n0 6 (by decide), G9.at 6, G8.at 6, G7.at 6, v6 j hj2, t5]; rfl
    | 7, _, _, hj => have hj2 : j < 104 := hj; rw [n0 7 (by decide), G9.at 7, G8.at 7, v7 j hj2, t6]; rfl
    | 8, _, _, hj => have hj2 : j < 8 := hj; rw [n0 8 (by decide), G9.at 8, v8 j hj2, t7]; rfl
    | 9, _, _, hj => have hj2 : j < 8 := hj; rw [n0 9 (by decide), v9 j hj2, t8]; rfl
theorem fo_image : fw_O_image fm_I := by
  intro n μx μm hn hI
  obtain ⟨⟨C, wc, xs, ms, kp⟩, im, tp, sh, rk⟩ := hI
  unfold f_X_image
  obtain ⟨ν, ex, F, xk⟩ := fx_sh_32 wc xs
  obtain ⟨⟨r, νm⟩, em, rfl, G, Z, h32, mk⟩ := fy_image wc ms
  simp only at G Z h32 mk
  rw [ex, fm_bs, fm_nmE]
  have F2 : ∀ k, k ≠ 0 → k < 32 ∨ 62 < k → (fw_wr ν 0 2 1).1 k = μx.1 k := fun k k0 hk => by rw [fm_wrn k0]; exact F k hk
  refine ⟨_, _, _, rfl, em, ⟨C, wc, xs.cong (fun k k1 k2 => F2 k (by omega) (by omega)) wc.2.2.2.2.1.1, ms.cong (Z 0 (by decide)) (Z 6 (by decide)) (Z 8 (by decide)) (Z 9 (by decide)) (Z 11 (by decide)) (G.rg 1 9), kp.cong (F2 81 (by omega) (by omega)) (F2 82 (by omega) (by omega))⟩, Or.inr ⟨by rw [fm_wr, if_pos ⟨rfl, rfl⟩], h32, C, wc, xk.cong (fun k k1 k2 => fm_wrn (by omega)) wc.2.2.2.2.1.1, mk⟩, tp.cong (by rw [F2 63 (by omega) (by omega)]) (F2 64 (by omega) (by omega)) (Z 15 (by decide)) (G.at 10), fm_sheets sh (fun k k1 k2 => F2 k (by omega) (by omega)) (G.at 24) (G.at 25) (G.at 26), rk.st G (Z 21 (by decide))⟩
theorem fo_restore : fw_O_restore fm_I := by
  intro n μx μm hn hI
  have hI2 := hI.up
  obtain ⟨⟨C, wc, xs, ms, kp⟩, im, tp, sh, rk⟩ := hI
  rcases im with ⟨i1, i2⟩ | ⟨i1, i2, D, wd, xk, mk⟩
  · unfold f_X_restore f_M_restore
    rw [i1, i2, if_pos rfl, if_pos rfl]
    exact ⟨_, _, _, rfl, rfl, hI2⟩
  · unfold f_X_restore
    rw [i1, if_neg fm_n10]
    obtain ⟨ν, ex, F, xn⟩ := fx_sh_1 wd xk
    obtain ⟨⟨r, νm⟩, em, rfl, G, Z, mn⟩ := fy_restore wd i2 mk
    obtain ⟨ν2, e3, F3, zz⟩ := fh_forget (μ := ν)
    simp only at G Z mn
    rw [ex, fm_bs, e3, fm_bs]
    have F2 : ∀ k, k ≠ 81 → k < 1 ∨ 31 < k → ν2.1 k = μx.1 k := fun k k0 hk => by rw [F3 k (by simpa using k0)]; exact F k hk
    refine ⟨_, _, _, rfl, em, ⟨D, wd, xn.cong (fun k k1 k2 => F3 k (by simp; omega)) wd.2.2.2.2.1.1, mn, fm_kept.none zz wd.2.2.2.2.1.1⟩, Or.inr ⟨by rw [F2 0 (by omega) (by omega)]; exact i1, by rw [Z 32 (by decide) (by decide) (by decide) (by decide) (by decide)]; exact i2, D, wd, xk.cong (fun k k1 k2 => F2 k (by omega) (by omega)) wd.2.2.2.2.1.1, by rw [G.at 23]; exact mk⟩, tp.cong (by rw [F2 63 (by omega) (by omega)]) (F2 64 (by omega) (by omega)) (Z 15 (by decide) (by decide) (by decide) (by decide) (by decide)) (G.at 10), fm_sheets sh (fun k k1 k2 => F2 k (by omega) (by omega)) (G.at 24) (G.at 25) (G.at 26), rk.st G (Z 21 (by decide) (by decide) (by decide) (by decide) (by decide))⟩
