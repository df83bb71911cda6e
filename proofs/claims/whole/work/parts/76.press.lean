theorem fx_lock50 {μ : fw_M} {T : List fm_Ty} {L : fm_Li} {t1 : Nat} (hok : fw_okL t1) (h60 : t1 < 60) (hT : rT (μ.1 2 3) (μ.1 3) (μ.1 4) (μ.1 5) T) (wt : wT T) (hL : xL t1 μ L) (wl : wL L) (h5 : μ.1 65 5 = nI L.1.length) (h8 : μ.1 65 8 = nI 0) (hc : μ.1 65 10 = nI 0) (hA : xA (μ.1 67) L.1.length (fun _ _ => False)) (hB : xA (μ.1 68) L.1.length (fun _ _ => False)) : fm_T (fw_wh (f_Press_lock_L50 t1) fw_N (0, μ)) (fun ν => fm_F [65, 66, 67, 68] μ ν ∧ ν.2 = μ.2 ∧ (∀ j, j ≠ 8 → j ≠ 10 → ν.1 65 j = μ.1 65 j) ∧ ∃ us : List Nat, xU T L us T.length ∧ ν.1 65 8 = nI us.length ∧ ν.1 65 10 = nI (xcap T us) ∧ (∀ i, i < us.length → ν.1 66 i = nI (xg us i)) ∧ xA (ν.1 67) L.1.length (fun i q => i < us.length ∧ fp_pr T L (xg us i) q) ∧ xA (ν.1 68) L.1.length (fun i q => i < us.length ∧ fp_bs L q ∧ fp_jn T L (xg us i) q)) := by
  have t10 := wt.1
  have l10 := wl.1
  refine fm_up (P := fun t s => s.1 = nI t ∧ fm_F [65, 66, 67, 68] μ s.2 ∧ s.2.2 = μ.2 ∧ (∀ j, j ≠ 8 → j ≠ 10 → s.2.1 65 j = μ.1 65 j) ∧ ∃ us : List Nat, xU T L us t ∧ s.2.1 65 8 = nI us.length ∧ s.2.1 65 10 = nI (xcap T us) ∧ (∀ i, i < us.length → s.2.1 66 i = nI (xg us i)) ∧ xA (s.2.1 67) L.1.length (fun i q => i < us.length ∧ fp_pr T L (xg us i) q) ∧ xA (s.2.1 68) L.1.length (fun i q => i < us.length ∧ fp_bs L q ∧ fp_jn T L (xg us i) q)) T.length ?_ ?_ 0 (Nat.zero_le _) ⟨rfl, fm_F.rf, rfl, fun _ _ _ => rfl, [], ⟨Nat.le_refl _, fun i hi => absurd hi (Nat.not_lt_zero _), fun i j _ hj => absurd hj (Nat.not_lt_zero _), fun x hx => absurd hx (Nat.not_lt_zero _)⟩, h8, hc, fun i hi => absurd hi (Nat.not_lt_zero _), hA.iff (fun i q _ => ⟨fun z => z.elim, fun z => absurd z.1 (Nat.not_lt_zero _)⟩), hB.iff (fun i q _ => ⟨fun z => z.elim, fun z => absurd z.1 (Nat.not_lt_zero _)⟩)⟩ (by omega)
  · rintro t ⟨x, ν⟩ ht ⟨e1, F, f2, z5, us, ⟨u0, u1, u2, u3⟩, n8, n10, n66, a7, a8⟩
    simp only at e1 F f2 z5 n8 n10 n66 a7 a8
    subst e1
    have nT : rT (ν.1 2 3) (ν.1 3) (ν.1 4) (ν.1 5) T := cT hT F
    have nL : xL t1 ν L := hL.cong (F _ (by simp; omega)) (F _ (by simp; omega))
    have n5 : ν.1 65 5 = nI L.1.length := (z5 5 (by decide) (by decide)).trans h5
    unfold f_Press_lock_L50
    try dsimp only
    rw [nT.1, if_neg (nI_ge ht (by omega)), fm_bind]
    refine (fx_lockType hok h60 nT wt nL wl ht n5 n8 (by omega) a7 a8).mono ?_
    rintro ⟨fl, ξ⟩ ⟨G, g2, g1, b7, b8⟩
    simp only at G g2 g1 b7 b8
    subst g1
    have G2 : fm_F [65, 66, 67, 68] μ ξ := F.tr G.up
    by_cases use : ∃ q, q < L.1.length ∧ fU T L t q
    · have m8 : ξ.1 65 8 = nI us.length := by rw [G.at 65]; exact n8
      have m10 : ξ.1 65 10 = nI (xcap T us) := by rw [G.at 65]; exact n10
      have mk : ξ.1 3 t = nI (fm_tt T t).1 := by rw [G.at 3]; exact (nT.2 t ht).1
      have c1 := (fm_ok_lt (wt.2 t ht)).1
      have k2 : nI (fm_tt T t).1 = 2 ↔ (fm_tt T t).1 = 2 := nI_eq (b := 2) (by omega) (by omega)
      simp only
      rw [fB1 use, if_neg fm_n10, m8, fm_si (by omega) (by omega), fm_bs, fm_nmE, fm_wrn (show 65 ≠ 66 by decide), m8, nI_1, fm_rd (by omega) (by omega), fm_bs, fm_wrn (show 3 ≠ 65 by decide), fm_wrn (show 3 ≠ 66 by decide), mk, fm_nmE, fm_nmE, fm_bs, fm_nm, fm_some, fm_Kl]
      have ecap : (fw_wr (fw_wr ξ 66 us.length (nI t)) 65 8 (nI (us.length + 1))).1 65 10 + (if nI (fm_tt T t).1 = 2 then 2 else 1) = nI (xcap T (us ++ [t])) := by
        rw [fm_wr, if_neg (by decide), fm_wrn (by decide), m10, xcap_app]
        by_cases q : (fm_tt T t).1 = 2
        · rw [if_pos (k2.mpr q), if_pos q]; exact nI_add _ 2
        · rw [if_neg (fun z => q (k2.mp z)), if_neg q]; exact nI_1 _
      rw [ecap]
      refine ⟨nI_1 t, ((G2.wr).wr).wr, g2.trans f2, fun j j1 j2 => ?_, us ++ [t], ⟨?_, ?_, ?_, ?_⟩, ?_, ?_, ?_, ?_, ?_⟩
      · rw [fm_wr, if_neg (fun z => j2 z.2), fm_wr, if_neg (fun z => j1 z.2), fm_wrn (by decide), G.at 65]
        exact z5 j j1 j2
      · rw [List.length_append, List.length_singleton]; omega
      · intro i hi
        rw [List.length_append, List.length_singleton] at hi
        by_cases e : i < us.length
        · rw [xg_app e]; have := u1 i e; omega
        · rw [show i = us.length by omega, xg_last]; omega
      · intro i j hij hj
        rw [List.length_append, List.length_singleton] at hj
        rw [xg_app (show i < us.length by omega)]
        by_cases e : j < us.length
        · rw [xg_app e]; exact u2 i j hij e
        · rw [show j = us.length by omega, xg_last]; exact u1 i (by omega)
      · intro x hx hu
        rw [List.length_append, List.length_singleton]
        by_cases e : x = t
        · exact ⟨us.length, by omega, by rw [xg_last, e]⟩
        · obtain ⟨i, i1, i2⟩ := u3 x (by omega) hu
          exact ⟨i, by omega, by rw [xg_app i1]; exact i2⟩
      · rw [fm_wr, if_neg (by decide), fm_wr, if_pos ⟨rfl, rfl⟩, List.length_append, List.length_singleton]
      · rw [fm_wr, if_pos ⟨rfl, rfl⟩]
      · intro i hi
        rw [List.length_append, List.length_singleton] at hi
        rw [fm_wrn (by decide), fm_wrn (by decide)]
        by_cases e : i < us.length
        · rw [fm_wr, if_neg (by omega), G.at 66, xg_app e]; exact n66 i e
        · rw [show i = us.length by omega, fm_wr, if_pos ⟨rfl, rfl⟩, xg_last]
      · rw [fm_wrn (by decide), fm_wrn (by decide), fm_wrn (by decide)]
        refine b7.iff (fun i q hq => ?_)
        rw [List.length_append, List.length_singleton]
        by_cases e : i < us.length
        · rw [xg_app e]
          exact ⟨fun z => z.elim (fun y => ⟨by omega, y.2⟩) (fun y => absurd y.1 (by omega)), fun z => Or.inl ⟨e, z.2⟩⟩
        · constructor
          · rintro (y | ⟨y1, y2⟩)
            · exact absurd y.1 e
            · rw [y1, xg_last]; exact ⟨by omega, y2⟩
          · rintro ⟨y1, y2⟩
            have : i = us.length := by omega
            rw [this, xg_last] at y2
            exact Or.inr ⟨this, y2⟩
      · rw [fm_wrn (by decide), fm_wrn (by decide), fm_wrn (by decide)]
        refine b8.iff (fun i q hq => ?_)
        rw [List.length_append, List.length_singleton]
        by_cases e : i < us.length
        · rw [xg_app e]
          exact ⟨fun z => z.elim (fun y => ⟨by omega, y.2⟩) (fun y => absurd y.1 (by omega)), fun z => Or.inl ⟨e, z.2⟩⟩
        · constructor
          · rintro (y | ⟨y1, y2⟩)
            · exact absurd y.1 e
            · rw [y1, xg_last]; exact ⟨by omega, y2⟩
          · rintro ⟨y1, y2⟩
            have : i = us.length := by omega
            rw [this, xg_last] at y2
            exact Or.inr ⟨this, y2⟩
    · simp only
      rw [fB0 use, if_pos rfl, fm_bs, fm_nm, fm_some, fm_Kl]
      refine ⟨nI_1 t, G2, g2.trans f2, fun j j1 j2 => by rw [G.at 65]; exact z5 j j1 j2, us, ⟨by omega, fun i hi => by have := u1 i hi; omega, u2, fun x hx hu => ?_⟩, by rw [G.at 65]; exact n8, by rw [G.at 65]; exact n10, fun i hi => by rw [G.at 66]; exact n66 i hi, b7.iff (fun i q hq => ⟨fun z => z.elim id (fun y => absurd ⟨q, hq, Or.inl y.2⟩ use), Or.inl⟩), b8.iff (fun i q hq => ⟨fun z => z.elim id (fun y => absurd ⟨q, hq, Or.inr y.2⟩ use), Or.inl⟩)⟩
      by_cases e : x = t
      · rw [e] at hu; exact absurd hu use
      · exact u3 x (by omega) hu
  · rintro ⟨x, ν⟩ ⟨e1, F, f2, z5, hh⟩
    simp only at e1 F f2 z5 hh
    subst e1
    have nT : rT (ν.1 2 3) (ν.1 3) (ν.1 4) (ν.1 5) T := cT hT F
    unfold f_Press_lock_L50
    try dsimp only
    rw [nT.1, if_pos (nI_le (Nat.le_refl _) (by omega)), fm_some, fm_Kr]
    exact ⟨F, f2, z5, hh⟩
/-- row n is all ones -/
def xN (ν : fw_M) (n k : Nat) : Prop := ∀ i, i < xW k → ν.2 69 (16 * n + i) = -1
theorem fx_lock {μ : fw_M} {T : List fm_Ty} {L : fm_Li} {t1 w : Nat} (hok : fw_okL t1) (h60 : t1 < 60) (hT : rT (μ.1 2 3) (μ.1 3) (μ.1 4) (μ.1 5) T) (wt : wT T) (hL : xL t1 μ L) (wl : wL L) (hw : w ≤ 1) : fm_T (f_Press_lock t1 (nI w) μ) (fun ν => fm_F [65, 66, 67, 68] μ ν ∧ ∃ us : List Nat, xP ν T L w us ∧ xN ν L.1.length us.length) := by
  have t10 := wt.1
  have l10 := wl.1
  unfold f_Press_lock
  have hbz : fw_bz (nI w) = some (nI w) := by
    have : w = 0 ∨ w = 1 := by omega
    rcases this with rfl | rfl <;> rfl
  rw [if_pos hok, fm_nm, fm_nm, hbz, fm_bs, fm_nm, fm_nm, fm_nm, fm_wrn (show t1 ≠ 65 by omega), hL.2, show μ.1 t1 1 = nI L.1.length from hL.1.1, fm_bind]
  generalize hμ : fw_wr (fw_wr (fw_wr (fw_wr (fw_wr μ 65 5 (nI L.1.length)) 65 6 (nI (fm_be L))) 65 7 (nI w)) 65 8 0) 65 10 0 = μ1
  have F1 : fm_F [65, 66, 67, 68] μ μ1 := by rw [← hμ]; exact ((((fm_F.rf.wr).wr).wr).wr).wr
  have v5 : μ1.1 65 5 = nI L.1.length := by rw [← hμ]; simp [fm_wr]
  have v6 : μ1.1 65 6 = nI (fm_be L) := by rw [← hμ]; simp [fm_wr]
  have v7 : μ1.1 65 7 = nI w := by rw [← hμ]; simp [fm_wr]
  have v8 : μ1.1 65 8 = nI 0 := by rw [← hμ]; simp [fm_wr]; rfl
  have v10 : μ1.1 65 10 = nI 0 := by rw [← hμ]; simp [fm_wr]; rfl
  refine (fh_fill (k := 67) (n := 10) rfl (by omega)).mono ?_
  intro μ2 ⟨F2, f2, z7⟩
  rw [fm_bind]
  refine (fh_fill (k := 68) (n := 10) rfl (by omega)).mono ?_
  intro μ3 ⟨F3, f3, z8⟩
  have F23 : fm_F [67, 68] μ1 μ3 := (F2.up : fm_F [67, 68] μ1 μ2).tr F3.up
  have F13 : fm_F [65, 66, 67, 68] μ μ3 := F1.tr F23.up
  have emp : ∀ {f : Nat → Int32}, (∀ j, j < 10 → f j = 0) → xA f L.1.length (fun _ _ => False) := fun hz q hq => ⟨0, by omega, hz q (by omega), fun i => by simp⟩
  rw [fm_bind]
  refine (fx_lock50 (μ := μ3) (L := L) hok h60 (cT hT F13) wt (hL.cong (F13 _ (by simp; omega)) (F13 _ (by simp; omega))) wl (by rw [F23.at 65]; exact v5) (by rw [F23.at 65]; exact v8) (by rw [F23.at 65]; exact v10) (emp (by rw [F3.at 67]; exact z7)) (emp z8)).mono ?_
  intro μ4 ⟨F4, f4, z5, us, u, n8, n10, n66, a7, a8⟩
  have k10 : us.length ≤ 10 := by have := u.1; omega
  obtain ⟨w16, w1, wk⟩ := xW_le k10
  have ew : (if 6 < μ4.1 65 8 then ((1 : Int32) <<< (((μ4.1 65 8) - 6) &&& 31)) else 1) = nI (xW us.length) := by
    rw [n8]
    unfold xW
    by_cases h : us.length ≤ 6
    · rw [if_pos h, if_neg (show ¬ (6 : Int32) < nI us.length from fun z => by have := (nI_ltI (a := 6) (by omega) (by omega)).mp z; omega)]; rfl
    · rw [if_neg h, if_pos (show (6 : Int32) < nI us.length from (nI_ltI (a := 6) (by omega) (by omega)).mpr (by omega)), show (6 : Int32) = nI 6 from rfl, pk_sub (by omega), fm_one (by omega)]
  rw [fm_nm, ew, fm_nm]
  have e5 : (fw_wr μ4 65 9 (nI (xW us.length))).1 65 5 = nI L.1.length := by rw [fm_wr, if_neg (by decide), z5 5 (by decide) (by decide), F23.at 65]; exact v5
  rw [e5, fm_bind]
  refine (fx_setRow (μ := fw_wr μ4 65 9 (nI (xW us.length))) (W := xW us.length) (by rw [fm_wr, if_pos ⟨rfl, rfl⟩]) w16 l10).mono ?_
  intro ν ⟨h1, h2⟩
  rw [fm_some]
  have F5 : fm_F [65, 66, 67, 68] μ (fw_wr μ4 65 9 (nI (xW us.length))) := (F13.tr F4).wr
  refine ⟨fun k hk => by rw [h1]; exact F5 k hk, us, ?_, fun i hi => by rw [h2, if_pos (by omega)]⟩
  unfold xP
  rw [h1]
  refine ⟨e5, ?_, ?_, ?_, ?_, ?_, ?_, ?_, ?_, u⟩
  · rw [fm_wr, if_neg (by decide), z5 6 (by decide) (by decide), F23.at 65]; exact v6
  · rw [fm_wr, if_neg (by decide), z5 7 (by decide) (by decide), F23.at 65]; exact v7
  · rw [fm_wr, if_neg (by decide)]; exact n8
  · rw [fm_wr, if_pos ⟨rfl, rfl⟩]
  · rw [fm_wr, if_neg (by decide)]; exact n10
  · rw [fm_wrn (by decide)]; exact n66
  · rw [fm_wrn (by decide)]; exact a7
  · rw [fm_wrn (by decide)]; exact a8
/-! the masks of a place -/
theorem xP.cong {μ ν : fw_M} {T : List fm_Ty} {L : fm_Li} {w : Nat} {us : List Nat} (h : xP μ T L w us) (h1 : ∀ k, 65 ≤ k → k ≤ 68 → ν.1 k = μ.1 k) : xP ν T L w us := by
  unfold xP at *
  rw [h1 65 (by omega) (by omega), h1 66 (by omega) (by omega), h1 67 (by omega) (by omega), h1 68 (by omega) (by omega)]
  exact h
theorem fx_pairs {μ : fw_M} {T : List fm_Ty} {L : fm_Li} {w s : Nat} {us : List Nat} (h : xP μ T L w us) (wl : wL L) (hs : s < 1024) : ∃ x : Nat, x < 1024 ∧ f_Press_pairsOf (nI s) μ = some (nI x) ∧ ∀ p, x.testBit p = true ↔ (s.testBit p = true ∧ s.testBit (p + 1) = true ∧ fp_bs L p) := by
  refine ⟨(s &&& s / 2) &&& fm_be L, ?_, ?_, fun p => ?_⟩
  · have : (s &&& s / 2) &&& fm_be L ≤ fm_be L := Nat.and_le_right
    have := fm_be_lt wl
    omega
  · unfold f_Press_pairsOf
    rw [h.2.1, show ((1 : Int32) &&& 31) = (nI 1 &&& 31) from rfl, fm_shr (by omega) (by omega), fm_and, fm_and]
  · rw [Nat.testBit_and, Nat.testBit_and, show s / 2 = s / 2 ^ 1 from rfl, Nat.testBit_div_two_pow, fm_be_bit wl]
    unfold fp_bs
    cases s.testBit p <;> cases s.testBit (p + 1) <;> cases L.2.testBit p <;> simp
theorem fx_alone {μ : fw_M} {T : List fm_Ty} {L : fm_Li} {w s p : Nat} {us : List Nat} (h : xP μ T L w us) (wl : wL L) (hw : w ≤ 1) (hs : s < 1024) (hp : p < L.1.length) (hb : s.testBit p = true) : ∃ a : Nat, a < 1024 ∧ f_Press_mayPrintAlone (nI s) (nI p) μ = some (nI a) ∧ ∀ i, a.testBit i = true ↔ (i < us.length ∧ fp_al T L w s (xg us i) p) := by
  have l10 := wl.1
  obtain ⟨x, x1, x2, x3⟩ := fx_pairs h wl hs
  obtain ⟨a, a1, a2, a3⟩ := h.2.2.2.2.2.2.2.1 p hp
  have all : (¬ fp_cl L w s p) → ∀ i, a.testBit i = true ↔ (i < us.length ∧ fp_al T L w s (xg us i) p) := fun nc i => (a3 i).trans ⟨fun z => ⟨z.1, z.2, nc⟩, fun z => ⟨z.1, z.2.1⟩⟩
  unfold f_Press_mayPrintAlone
  rw [h.2.2.1, x2, fm_bs, fm_inSet (by omega) (by omega), fm_bs, fm_rd (by omega) (by omega), fm_bs, a2]
  by_cases e : w = 0
  · subst e
    rw [if_pos (show nI 0 = 0 from rfl), fm_bs]
    exact ⟨a, a1, rfl, all (fun z => absurd z.1 (by decide))⟩
  · have e1 : w = 1 := by omega
    subst e1
    rw [if_neg (show ¬ nI 1 = 0 by decide)]
    by_cases q : x.testBit p = true
    · have q2 := (x3 p).mp q
      rw [if_pos q, if_neg fm_n10, fm_bs]
      exact ⟨0, by omega, rfl, fun i => ⟨fun z => by simp at z, fun z => absurd ⟨rfl, q2.2.2, q2.2.1⟩ z.2.2⟩⟩
    · rw [if_neg q, if_pos rfl, fm_bs]
      exact ⟨a, a1, rfl, all (fun z => q ((x3 p).mpr ⟨hb, z.2.2, z.2.1⟩))⟩
theorem fx_joined {μ : fw_M} {T : List fm_Ty} {L : fm_Li} {w s p : Nat} {us : List Nat} (h : xP μ T L w us) (wl : wL L) (hw : w ≤ 1) (hs : s < 1024) (hp : p < L.1.length) (hb : s.testBit p = true) : ∃ a : Nat, a < 1024 ∧ f_Press_mayPrintJoined (nI s) (nI p) μ = some (nI a) ∧ ∀ i, a.testBit i = true ↔ (i < us.length ∧ fp_jo T L w s (xg us i) p) := by
  have l10 := wl.1
  obtain ⟨x, x1, x2, x3⟩ := fx_pairs h wl hs
  obtain ⟨a, a1, a2, a3⟩ := h.2.2.2.2.2.2.2.2.1 p hp
  unfold f_Press_mayPrintJoined
  rw [h.2.2.1, x2, fm_bs, fm_inSet (by omega) (by omega), fm_bs, fm_rd (by omega) (by omega), fm_bs, a2, nI_1, fm_inSet (by omega) (by omega), fm_bs]
  by_cases q : x.testBit p = true
  · have q2 := (x3 p).mp q
    rw [if_pos q, if_neg fm_n10]
    have all : (¬ fp_cl L w s (p + 1)) → ∀ i, a.testBit i = true ↔ (i < us.length ∧ fp_jo T L w s (xg us i) p) := fun nc i => (a3 i).trans ⟨fun z => ⟨z.1, z.2.2, z.2.1, q2.2.1, nc⟩, fun z => ⟨z.1, z.2.2.1, z.2.1⟩⟩
    by_cases e : w = 0
    · subst e
      rw [if_pos (show nI 0 = 0 from rfl), fm_bs]
      exact ⟨a, a1, rfl, all (fun z => absurd z.1 (by decide))⟩
    · have e1 : w = 1 := by omega
      subst e1
      rw [if_neg (show ¬ nI 1 = 0 by decide)]
      by_cases r : x.testBit (p + 1) = true
      · have r2 := (x3 (p + 1)).mp r
        rw [if_pos r, if_neg fm_n10, fm_bs]
        exact ⟨0, by omega, rfl, fun i => ⟨fun z => by simp at z, fun z => absurd ⟨rfl, r2.2.2, r2.2.1⟩ z.2.2.2.2⟩⟩
      · rw [if_neg r, if_pos rfl, fm_bs]
        exact ⟨a, a1, rfl, all (fun z => r ((x3 (p + 1)).mpr ⟨q2.2.1, z.2.2, z.2.1⟩))⟩
  · rw [if_neg q, if_pos rfl, fm_bs]
    exact ⟨0, by omega, rfl, fun i => ⟨fun z => by simp at z, fun z => absurd ((x3 p).mpr ⟨hb, z.2.2.2.1, z.2.2.1⟩) q⟩⟩
/-! filling the rows -/
def xQ (T : List fm_Ty) (L : fm_Li) (w s : Nat) (us : List Nat) (q : Nat) (F : Nat → Prop) : Prop := fq (fun i p => fp_al T L w s (xg us i) p) (fun i p => fp_jo T L w s (xg us i) p) L.1.length us.length s q F
def xV (ν : fw_M) (T : List fm_Ty) (L : fm_Li) (w s : Nat) (us : List Nat) (q : Nat) : Prop := ∀ f, f < 64 * xW us.length → (xb ν q f = true ↔ xQ T L w s us q (fbt f))
theorem xV_n {ν : fw_M} {T : List fm_Ty} {L : fm_Li} {w s : Nat} {us : List Nat} (h : xN ν L.1.length us.length) : xV ν T L w s us L.1.length := fun f hf => by
  unfold xb
  rw [h _ (by omega), xbv_m1 _ (by omega)]
  exact ⟨fun _ => fq_end (Nat.le_refl _), fun _ => rfl⟩
theorem fx_fill1 {μ : fw_M} {T : List fm_Ty} {L : fm_Li} {w s p : Nat} {us : List Nat} (h : xP μ T L w us) (wl : wL L) (wt : wT T) (hw : w ≤ 1) (hs : s < 1024) (hp : p < L.1.length) (v1 : xV μ T L w s us (p + 1)) (v2 : p + 2 ≤ L.1.length → xV μ T L w s us (p + 2)) : fm_T (f_Press_fillRows_L2 (nI s) (nD (p + 1), μ)) (fm_K (fun st => st.1 = nD p ∧ st.2.1 = μ.1 ∧ (∀ j, j < 16 * p ∨ 16 * p + 16 ≤ j → st.2.2 69 j = μ.2 69 j) ∧ xV st.2 T L w s us p) (fun _ => False)) := by
  have l10 := wl.1
  have k10 : us.length ≤ 10 := by have := h.2.2.2.2.2.2.2.2.2.1; have := wt.1; omega
  obtain ⟨w16, w1, wk⟩ := xW_le k10
  have hW : μ.1 65 9 = nI (xW us.length) := h.2.2.2.2.1
  unfold f_Press_fillRows_L2
  try dsimp only
  rw [nD_s, if_neg (nI_pos (by omega)), fm_inSet (by omega) (by omega), fm_bs]
  by_cases hb : s.testBit p = true
  · rw [if_pos hb, if_neg fm_n10, fm_bind, fm_bind]
    refine (fx_setRow hW w16 (by omega)).mono ?_
    intro ν ⟨n1, n2⟩
    have hν : xP ν T L w us := h.cong (fun k _ _ => by rw [n1])
    obtain ⟨a, a1, a2, a3⟩ := fx_alone hν wl hw hs hp hb
    rw [a2, fm_bs, nI_1, fm_bind]
    have same : ∀ q f, f < 1024 → q ≠ p → xb ν q f = xb μ q f := fun q f hf hq => xb_cong hf (fun j j1 j2 => by rw [n2, if_neg (by omega)])
    have zero : ∀ f, f < 64 * xW us.length → xb ν p f = false := fun f hf => by
      unfold xb
      rw [n2, if_pos (by omega), xbv_0]
    refine (fx_ways (μ := ν) (p := p) (b := p + 1) (k := us.length) (a := a) (by rw [n1]; exact hW) hν.2.2.2.1 k10 (by omega) (fun _ => by omega) (by omega) (fun i hi => ((a3 i).mp hi).1)).mono ?_
    intro ξ ⟨x1, x2, x3⟩
    have hξ : xP ξ T L w us := hν.cong (fun k _ _ => by rw [x1])
    obtain ⟨b, b1, b2, b3⟩ := fx_joined hξ wl hw hs hp hb
    rw [b2, fm_bs, show (2 : Int32) = nI 2 from rfl, nI_add, fm_bind]
    have bn : ∀ i, b.testBit i = true → p + 2 ≤ L.1.length := fun i hi => by have := ((b3 i).mp hi).2.2.1.1; omega
    refine (fx_ways (μ := ξ) (p := p) (b := p + 2) (k := us.length) (a := b) (by rw [x1, n1]; exact hW) hξ.2.2.2.1 k10 (by omega) (fun hne => ?_) (by omega) (fun i hi => ((b3 i).mp hi).1)).mono ?_
    · obtain ⟨i, hi⟩ : ∃ i, b.testBit i = true := by
        by_cases q : ∃ i, b.testBit i = true
        · exact q
        · exfalso
          apply hne
          apply Nat.eq_of_testBit_eq
          intro i
          rw [Nat.zero_testBit]
          cases z : b.testBit i
          · rfl
          · exact absurd ⟨i, z⟩ q
      have := bn i hi
      omega
    · intro ζ ⟨z1, z2, z3⟩
      rw [fm_some, fm_nm, nD_m, fm_some, fm_Kl]
      refine ⟨rfl, by rw [z1, x1, n1], fun j hj => by rw [z2 j hj, x2 j hj, n2, if_neg (by omega)], fun f hf => ?_⟩
      rw [z3 f hf, x3 f hf, zero f hf]
      unfold xQ
      rw [fq_st hp]
      constructor
      · rintro ((y | ⟨t, y1, y2, y3⟩) | ⟨t, y1, y2, y3⟩)
        · cases y
        · obtain ⟨i1, i2⟩ := (a3 t).mp y1
          rw [same (p + 1) _ (Nat.lt_of_le_of_lt (Nat.sub_le _ _) (by omega)) (by omega)] at y3
          have y4 := (v1 (f - 2 ^ t) (Nat.lt_of_le_of_lt (Nat.sub_le _ _) hf)).mp y3
          exact Or.inr ⟨hb, t, i1, y2, Or.inl ⟨i2, by rw [fbt_no y2]; exact y4⟩⟩
        · obtain ⟨i1, i2⟩ := (b3 t).mp y1
          have p2 := bn t y1
          rw [xb_cong (μ := ν) (Nat.lt_of_le_of_lt (Nat.sub_le _ _) (show f < 1024 by omega)) (fun j j1 j2 => x2 j (by omega)), same (p + 2) _ (Nat.lt_of_le_of_lt (Nat.sub_le _ _) (by omega)) (by omega)] at y3
          have y4 := (v2 p2 (f - 2 ^ t) (Nat.lt_of_le_of_lt (Nat.sub_le _ _) hf)).mp y3
          exact Or.inr ⟨hb, t, i1, y2, Or.inr ⟨i2, p2, by rw [fbt_no y2]; exact y4⟩⟩
      · rintro (⟨y, _⟩ | ⟨_, t, y1, y2, (⟨y3, y4⟩ | ⟨y3, p2, y4⟩)⟩)
        · rw [hb] at y; cases y
        · rw [fbt_no y2] at y4
          refine Or.inl (Or.inr ⟨t, (a3 t).mpr ⟨y1, y3⟩, y2, ?_⟩)
          rw [same (p + 1) _ (Nat.lt_of_le_of_lt (Nat.sub_le _ _) (by omega)) (by omega)]
          exact (v1 (f - 2 ^ t) (Nat.lt_of_le_of_lt (Nat.sub_le _ _) hf)).mpr y4
        · rw [fbt_no y2] at y4
          refine Or.inr ⟨t, (b3 t).mpr ⟨y1, y3⟩, y2, ?_⟩
          rw [xb_cong (μ := ν) (Nat.lt_of_le_of_lt (Nat.sub_le _ _) (show f < 1024 by omega)) (fun j j1 j2 => x2 j (by omega)), same (p + 2) _ (Nat.lt_of_le_of_lt (Nat.sub_le _ _) (by omega)) (by omega)]
          exact (v2 p2 (f - 2 ^ t) (Nat.lt_of_le_of_lt (Nat.sub_le _ _) hf)).mpr y4
  · have hb0 : s.testBit p = false := by simpa using hb
    rw [if_neg hb, if_pos rfl, nI_1, hW, show (16 : Int32) = nI 16 from rfl, pk_mul, pk_mul, fm_cl2 (by omega) (by omega) (by omega) (by omega), fm_bs, fm_bs, fm_nm, nD_m, fm_some, fm_Kl]
    have vd : ∀ j, (fw_wd μ 69 (va_cpy (μ.2 69) (μ.2 69) ((p + 1) * 16) (p * 16) (xW us.length))).2 69 j = va_cpy (μ.2 69) (μ.2 69) ((p + 1) * 16) (p * 16) (xW us.length) j := fun j => rfl
    refine ⟨rfl, rfl, fun j hj => by rw [vd, pk_cpy_out (by omega)], fun f hf => ?_⟩
    have e : xb (fw_wd μ 69 (va_cpy (μ.2 69) (μ.2 69) ((p + 1) * 16) (p * 16) (xW us.length))) p f = xb μ (p + 1) f := by
      unfold xb
      rw [vd, pk_cpy_in (by omega) (by omega), show (p + 1) * 16 + (16 * p + f / 64 - p * 16) = 16 * (p + 1) + f / 64 by omega]
    rw [e, v1 f hf]
    unfold xQ
    rw [fq_st (p := p) hp]
    exact ⟨fun y => Or.inl ⟨hb0, y⟩, fun y => y.elim (fun z => z.2) (fun z => by rw [hb0] at z; cases z.1)⟩
theorem xV.cong {μ ν : fw_M} {T : List fm_Ty} {L : fm_Li} {w s q : Nat} {us : List Nat} (k10 : us.length ≤ 10) (h : xV μ T L w s us q) (h1 : ∀ j, 16 * q ≤ j → j < 16 * q + 16 → ν.2 69 j = μ.2 69 j) : xV ν T L w s us q := fun f hf => by
  obtain ⟨w16, w1, wk⟩ := xW_le k10
  rw [xb_cong (by omega) h1]
  exact h f hf
/-- rows from m on are good: then all are, when filled below m -/
theorem fx_fill {μ : fw_M} {T : List fm_Ty} {L : fm_Li} {w s m : Nat} {us : List Nat} (h : xP μ T L w us) (wl : wL L) (wt : wT T) (hw : w ≤ 1) (hs : s < 1024) (hm : m ≤ L.1.length) (v : ∀ q, m ≤ q → q ≤ L.1.length → xV μ T L w s us q) : fm_T (f_Press_fillRows (nI s) (nD m) μ) (fun ν => ν.1 = μ.1 ∧ (∀ j, 16 * m ≤ j → ν.2 69 j = μ.2 69 j) ∧ ∀ q, q ≤ L.1.length → xV ν T L w s us q) := by
  have l10 := wl.1
  have k10 : us.length ≤ 10 := by have := h.2.2.2.2.2.2.2.2.2.1; have := wt.1; omega
  unfold f_Press_fillRows
  rw [fm_bind]
  refine fm_dn (P := fun p st => st.1 = nD p ∧ p ≤ m ∧ st.2.1 = μ.1 ∧ (∀ j, 16 * m ≤ j → st.2.2 69 j = μ.2 69 j) ∧ ∀ q, p ≤ q → q ≤ L.1.length → xV st.2 T L w s us q) ?_ ?_ m ⟨rfl, Nat.le_refl _, rfl, fun _ _ => rfl, v⟩ (by omega)
  · rintro p ⟨x, ν⟩ ⟨h1, hp, h2, h3, h4⟩
    simp only at h1 h2 h3 h4
    subst h1
    have hν : xP ν T L w us := h.cong (fun k _ _ => by rw [h2])
    refine (fx_fill1 hν wl wt hw hs (show p < L.1.length by omega) (h4 (p + 1) (by omega) (by omega)) (fun q => h4 (p + 2) (by omega) q)).mono ?_
    intro y hy
    cases y with
    | inl st =>
      obtain ⟨y1, y2, y3, y4⟩ := hy
      refine ⟨y1, by omega, y2.trans h2, fun j hj => (y3 j (by omega)).trans (h3 j hj), fun q q1 q2 => ?_⟩
      by_cases e : q = p
      · rw [e]; exact y4
      · exact (h4 q (by omega) q2).cong k10 (fun j j1 j2 => y3 j (by omega))
    | inr st => exact hy.elim
  · rintro ⟨x, ν⟩ ⟨h1, hp, h2, h3, h4⟩
    simp only at h1 h2 h3 h4
    subst h1
    unfold f_Press_fillRows_L2
    try dsimp only
    rw [if_pos (show nD 0 < 0 by decide), fm_some, fm_Kr, fm_some]
    exact ⟨h2, h3, fun q q1 => h4 q (Nat.zero_le _) q1⟩
/-- useful types only -/
theorem xQ_q {T : List fm_Ty} {L : fm_Li} {w s : Nat} {us : List Nat} (u : xU T L us T.length) : ∀ (k p : Nat) (F G : Nat → Prop), L.1.length - p ≤ k → (∀ i, i < us.length → (F i ↔ G (xg us i))) → (xQ T L w s us p F ↔ fq (fp_al T L w s) (fp_jo T L w s) L.1.length T.length s p G) := by
  obtain ⟨u0, u1, u2, u3⟩ := u
  intro k
  induction k with
  | zero =>
    intro p F G hk _
    exact ⟨fun _ => fq_end (by omega), fun _ => fq_end (by omega)⟩
  | succ k ih =>
    intro p F G hk hFG
    by_cases hp : p < L.1.length
    · have no : ∀ i, i < us.length → ∀ j, j < us.length → (fq_no F i j ↔ fq_no G (xg us i) (xg us j)) := fun i hi j hj => by
        unfold fq_no
        rw [hFG j hj]
        have : j ≠ i ↔ xg us j ≠ xg us i := by
          constructor
          · intro ne eq
            by_cases q : j < i
            · have := u2 j i q hi; omega
            · have := u2 i j (by omega) hj; omega
          · intro ne eq
            exact ne (by rw [eq])
        exact ⟨fun z => ⟨z.1, this.mp z.2⟩, fun z => ⟨z.1, this.mpr z.2⟩⟩
      unfold xQ at ih ⊢
      rw [fq_st hp, fq_st hp, ih (p + 1) F G (by omega) hFG]
      constructor
      · rintro (z | ⟨b, i, i1, i2, (⟨z1, z2⟩ | ⟨z1, z2, z3⟩)⟩)
        · exact Or.inl z
        · exact Or.inr ⟨b, xg us i, u1 i i1, (hFG i i1).mp i2, Or.inl ⟨z1, (ih (p + 1) _ _ (by omega) (no i i1)).mp z2⟩⟩
        · exact Or.inr ⟨b, xg us i, u1 i i1, (hFG i i1).mp i2, Or.inr ⟨z1, z2, (ih (p + 2) _ _ (by omega) (no i i1)).mp z3⟩⟩
      · rintro (z | ⟨b, t, t1, t2, (⟨z1, z2⟩ | ⟨z1, z2, z3⟩)⟩)
        · exact Or.inl z
        · obtain ⟨i, i1, rfl⟩ := u3 t t1 ⟨p, hp, Or.inl z1.1⟩
          exact Or.inr ⟨b, i, i1, (hFG i i1).mpr t2, Or.inl ⟨z1, (ih (p + 1) _ _ (by omega) (no i i1)).mpr z2⟩⟩
        · obtain ⟨i, i1, rfl⟩ := u3 t t1 ⟨p, hp, Or.inr ⟨z1.2.1, z1.1⟩⟩
          exact Or.inr ⟨b, i, i1, (hFG i i1).mpr t2, Or.inr ⟨z1, z2, (ih (p + 2) _ _ (by omega) (no i i1)).mpr z3⟩⟩
    · exact ⟨fun _ => fq_end (by omega), fun _ => fq_end (by omega)⟩
theorem fm_allbits {k x : Nat} : (2 ^ k - 1).testBit x = decide (x < k) := Nat.testBit_two_pow_sub_one k x
theorem fx_all {μ : fw_M} {T : List fm_Ty} {L : fm_Li} {w : Nat} {us : List Nat} (h : xP μ T L w us) (wt : wT T) : f_Press_allUseful μ = some (nI (2 ^ us.length - 1)) := by
  have k10 : us.length ≤ 10 := by have := h.2.2.2.2.2.2.2.2.2.1; have := wt.1; omega
  unfold f_Press_allUseful
  rw [h.2.2.2.1, fm_one (by omega), fm_pred Nat.one_le_two_pow]
theorem fx_once {μ : fw_M} {T : List fm_Ty} {L : fm_Li} {w s : Nat} {us : List Nat} (h : xP μ T L w us) (wt : wT T) (v : xV μ T L w s us 0) : f_Press_isEnough 0 (nI (2 ^ us.length - 1)) μ = some (fB (fp_can T L w s)) := by
  have k10 : us.length ≤ 10 := by have := h.2.2.2.2.2.2.2.2.2.1; have := wt.1; omega
  obtain ⟨w16, w1, wk⟩ := xW_le k10
  have p1 : 1 ≤ 2 ^ us.length := Nat.one_le_two_pow
  rw [show (0 : Int32) = nI 0 from rfl, fx_enough (by omega) (by omega), fBite]
  congr 1
  apply fBi
  rw [v _ (by omega), fp_can_q, xQ_q h.2.2.2.2.2.2.2.2.2 L.1.length 0 _ (fu 0) (by omega) (fun i hi => ?_)]
  unfold fbt fu
  rw [fm_allbits]
  simp [hi]
theorem fx_inks {μ : fw_M} {T : List fm_Ty} {L : fm_Li} {w s : Nat} {us : List Nat} (h : xP μ T L w us) (hn : xN μ L.1.length us.length) (wl : wL L) (wt : wT T) (hw : w ≤ 1) (hs : s < 1024) : fm_T (f_Press_inks (nI s) μ) (fun p => p.1 = fB (fp_can T L w s) ∧ p.2.1 = μ.1 ∧ xN p.2 L.1.length us.length ∧ ∀ q, q ≤ L.1.length → xV p.2 T L w s us q) := by
  unfold f_Press_inks
  rw [h.1, show nI L.1.length - 1 = nD L.1.length from rfl, fm_bind]
  refine (fx_fill h wl wt hw hs (Nat.le_refl _) (fun q q1 q2 => by rw [show q = L.1.length by omega]; exact xV_n hn)).mono ?_
  intro ν ⟨n1, n2, n3⟩
  have hν : xP ν T L w us := h.cong (fun k _ _ => by rw [n1])
  rw [fx_all hν wt, fm_bs, fx_once hν wt (n3 0 (Nat.zero_le _)), fm_bs, fBz, fm_bs, fm_some]
  exact ⟨rfl, n1, fun i hi => by rw [n2 _ (by omega)]; exact hn i hi, n3⟩
