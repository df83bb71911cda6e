/-! said -/
noncomputable def fsd (X : List (Nat × fm_Li)) (g : Nat → Nat) (s : Nat) : Nat → Int32 × Nat
  | 0 => (-4, 99)
  | i + 1 => if (fm_xx X i).1 = s ∧ g i < (fsd X g s i).2 then (nI i, g i) else fsd X g s i
theorem fsd_b {X : List (Nat × fm_Li)} {g : Nat → Nat} {s : Nat} {n : Nat} (hg : ∀ i, i < n → 1 ≤ g i ∧ (g i ≤ 10 ∨ g i = 99)) : ∀ i, i ≤ n → 1 ≤ (fsd X g s i).2 ∧ ((fsd X g s i).2 ≤ 10 ∨ (fsd X g s i).2 = 99) := by
  intro i
  induction i with
  | zero => intro _; exact ⟨by show 1 ≤ 99; omega, Or.inr rfl⟩
  | succ i ih =>
    intro hi
    unfold fsd
    split
    · exact hg i (by omega)
    · exact ih (by omega)
def fsa (b : Nat) : Nat := if b = 99 then 11 else b
theorem fx_said {μ : fw_M} {C : fm_C} {s : Nat} {g : Nat → Nat} (wc : wC C) (xs : xS 1 μ C) (kp : fm_kept μ C) (hs : s < 4) (hg : ∀ i, i < C.2.2.2.2.1.length → fp_few (fp_can C.1 (fm_xx C.2.2.2.2.1 i).2 (C.2.2.2.1 0)) (fp_all (fm_xx C.2.2.2.2.1 i).2) (g i)) (hb : ∀ i, i < C.2.2.2.2.1.length → 1 ≤ g i ∧ (g i ≤ 10 ∨ g i = 99)) : fm_T (fw_wh (f_X_said_L18 (nI s)) fw_N ((-4), 11, 0, μ)) (fun p => p.1 = (fsd C.2.2.2.2.1 g s C.2.2.2.2.1.length).1 ∧ fm_F [65, 66, 67, 68, 70, 81, 82] μ p.2 ∧ fm_kept p.2 C) := by
  have h8 := wc.2.2.2.2.1.1
  refine fm_up (P := fun i st => st.1 = (fsd C.2.2.2.2.1 g s i).1 ∧ st.2.1 = nI (fsa (fsd C.2.2.2.2.1 g s i).2) ∧ st.2.2.1 = nI i ∧ fm_F [65, 66, 67, 68, 70, 81, 82] μ st.2.2.2 ∧ fm_kept st.2.2.2 C) C.2.2.2.2.1.length ?_ ?_ 0 (Nat.zero_le _) ⟨rfl, rfl, rfl, fm_F.rf, kp⟩ (by omega)
  · rintro i ⟨b, l, x, ν⟩ hi ⟨e1, e2, e3, F, kp2⟩
    simp only at e1 e2 e3 F kp2
    subst e1 e2 e3
    have xs2 : xS 1 ν C := xs.cong (F.rg 1 31) h8
    obtain ⟨y1, y2, y3⟩ := wc.2.2.2.2.1.2 i hi
    have sb := fsd_b (X := C.2.2.2.2.1) (s := s) hb i (by omega)
    obtain ⟨gb1, gb2⟩ := hb i hi
    have se : ν.1 27 i = nI (fm_xx C.2.2.2.2.1 i).1 := (xs2.2.2.2.2.1.2 i hi).2
    have k1 : nI (fm_xx C.2.2.2.2.1 i).1 = nI s ↔ (fm_xx C.2.2.2.2.1 i).1 = s := nI_eq (by omega) (by omega)
    unfold f_X_said_L18
    try dsimp only
    rw [show ν.1 1 6 = nI C.2.2.2.2.1.length from xs2.2.2.2.2.1.1, if_neg (nI_ge hi (by omega)), fm_rd (by omega) (by omega), fm_bs, se]
    by_cases c : (fm_xx C.2.2.2.2.1 i).1 = s
    · rw [if_pos (k1.mpr c), fm_bind, fm_bind]
      refine (fx_pulls (q := i) wc xs2 kp2 (Or.inr ⟨hi, rfl, rfl⟩) (by omega)).mono ?_
      rintro ⟨r, ξ⟩ ⟨f, f1, rfl, F2, kp3, _⟩
      simp only at F2 kp3 ⊢
      have := fp_few_un f1 (hg i hi)
      subst this
      have FF : fm_F [65, 66, 67, 68, 70, 81, 82] μ ξ := F.tr F2
      have old : ¬ g i < (fsd C.2.2.2.2.1 g s i).2 → fsd C.2.2.2.2.1 g s (i + 1) = fsd C.2.2.2.2.1 g s i := fun q => by
        show (if (fm_xx C.2.2.2.2.1 i).1 = s ∧ g i < (fsd C.2.2.2.2.1 g s i).2 then (nI i, g i) else fsd C.2.2.2.2.1 g s i) = _
        rw [if_neg (fun z => q z.2)]
      have new : g i < (fsd C.2.2.2.2.1 g s i).2 → fsd C.2.2.2.2.1 g s (i + 1) = (nI i, g i) := fun q => by
        show (if (fm_xx C.2.2.2.2.1 i).1 = s ∧ g i < (fsd C.2.2.2.2.1 g s i).2 then (nI i, g i) else fsd C.2.2.2.2.1 g s i) = _
        rw [if_pos ⟨c, q⟩]
      by_cases g99 : g i = 99
      · rw [g99, if_pos (show fp_ans 99 ≤ 0 by decide), fm_some, fm_nm, fm_some, fm_Kl, old (by omega)]
        exact ⟨rfl, rfl, nI_1 i, FF, kp3⟩
      · have ea : fp_ans (g i) = nI (g i) := by unfold fp_ans; rw [if_pos (by omega)]
        have ab : fsa (fsd C.2.2.2.2.1 g s i).2 ≤ 11 ∧ (g i < fsa (fsd C.2.2.2.2.1 g s i).2 ↔ g i < (fsd C.2.2.2.2.1 g s i).2) := by
          unfold fsa
          by_cases z : (fsd C.2.2.2.2.1 g s i).2 = 99
          · rw [if_pos z]; omega
          · rw [if_neg z]; omega
        rw [ea, if_neg (nI_nle (by omega) (by omega))]
        by_cases q : g i < (fsd C.2.2.2.2.1 g s i).2
        · rw [if_neg (nI_ge (ab.2.mpr q) (by omega)), fm_some, fm_nm, fm_some, fm_Kl, new q]
          refine ⟨rfl, ?_, nI_1 i, FF, kp3⟩
          show nI (g i) = nI (fsa (g i))
          unfold fsa
          rw [if_neg g99]
        · rw [if_pos (nI_le (by have := ab.2; omega) (by omega)), fm_some, fm_nm, fm_some, fm_Kl, old q]
          exact ⟨rfl, rfl, nI_1 i, FF, kp3⟩
    · rw [if_neg (fun z => c (k1.mp z)), fm_bs, fm_nm, fm_some, fm_Kl]
      have old : fsd C.2.2.2.2.1 g s (i + 1) = fsd C.2.2.2.2.1 g s i := by
        show (if (fm_xx C.2.2.2.2.1 i).1 = s ∧ g i < (fsd C.2.2.2.2.1 g s i).2 then (nI i, g i) else fsd C.2.2.2.2.1 g s i) = _
        rw [if_neg (fun z => c z.1)]
      rw [old]
      exact ⟨rfl, rfl, nI_1 i, F, kp2⟩
  · rintro ⟨b, l, x, ν⟩ ⟨e1, e2, e3, F, kp2⟩
    simp only at e1 e2 e3 F kp2
    subst e1 e2 e3
    have xs2 : xS 1 ν C := xs.cong (F.rg 1 31) h8
    unfold f_X_said_L18
    try dsimp only
    rw [show ν.1 1 6 = nI C.2.2.2.2.1.length from xs2.2.2.2.2.1.1, if_pos (nI_le (Nat.le_refl _) (by omega)), fm_some, fm_Kr]
    exact ⟨rfl, F, kp2⟩
theorem fy_said {μ : fw_M} {T : List fm_Ty} {X : List (Nat × fm_Li)} {w s k : Nat} {g : Nat → Nat} (h : hN μ T X w) (wt : wT2 T) (wx : wX X) (hw : w ≤ 1) (hk : rKn k μ) (kb : k + 10000 < 2000000000) (hs : s < 4) (hg : ∀ i, i < X.length → fp_few (fp_can T (fm_xx X i).2 w) (fp_all (fm_xx X i).2) (g i)) (hb : ∀ i, i < X.length → 1 ≤ g i ∧ (g i ≤ 10 ∨ g i = 99)) : fm_T (fw_wh (f_M_said_L23 (nI s)) fw_N ((-4), 99, 0, μ)) (fun p => p.1 = (fsd X g s X.length).1 ∧ fm_F [0, 6, 13, 15, 16, 22] μ p.2 ∧ (∀ j, j ≠ 21 → p.2.1 0 j = μ.1 0 j) ∧ (∀ i, i < 10 → p.2.1 6 i = μ.1 6 i) ∧ ∃ k2, k2 ≤ k + 10000 ∧ rKn k2 p.2) := by
  have h8 := wx.1
  refine fm_up (P := fun i st => st.1 = (fsd X g s i).1 ∧ st.2.1 = nI (fsd X g s i).2 ∧ st.2.2.1 = nI i ∧ fm_F [0, 6, 13, 15, 16, 22] μ st.2.2.2 ∧ (∀ j, j ≠ 21 → st.2.2.2.1 0 j = μ.1 0 j) ∧ (∀ i, i < 10 → st.2.2.2.1 6 i = μ.1 6 i) ∧ ∃ k2, k2 ≤ k + 1024 * i ∧ rKn k2 st.2.2.2) X.length ?_ ?_ 0 (Nat.zero_le _) ⟨rfl, rfl, rfl, fm_F.rf, fun _ _ => rfl, fun _ _ => rfl, k, by omega, hk⟩ (by omega)
  · rintro i ⟨b, l, x, ν⟩ hi ⟨e1, e2, e3, F, Z, h6, k2, kk, rk2⟩
    simp only at e1 e2 e3 F Z h6 rk2
    subst e1 e2 e3
    have h2 : hN ν T X w := h.cong F (Z 0 (by decide)) (Z 9 (by decide))
    obtain ⟨y1, y2, y3⟩ := wx.2 i hi
    have sb := fsd_b (X := X) (s := s) hb i (by omega)
    obtain ⟨gb1, gb2⟩ := hb i hi
    have se := (h2.2.1.2 i hi).2.2.1
    have k1 : nI (fm_xx X i).1 = nI s ↔ (fm_xx X i).1 = s := nI_eq (by omega) (by omega)
    have old : ¬ ((fm_xx X i).1 = s ∧ g i < (fsd X g s i).2) → fsd X g s (i + 1) = fsd X g s i := fun q => by
      show (if (fm_xx X i).1 = s ∧ g i < (fsd X g s i).2 then (nI i, g i) else fsd X g s i) = _
      rw [if_neg q]
    have new : (fm_xx X i).1 = s ∧ g i < (fsd X g s i).2 → fsd X g s (i + 1) = (nI i, g i) := fun q => by
      show (if (fm_xx X i).1 = s ∧ g i < (fsd X g s i).2 then (nI i, g i) else fsd X g s i) = _
      rw [if_pos q]
    unfold f_M_said_L23
    try dsimp only
    rw [h2.2.1.1, if_neg (nI_ge hi (by omega)), show (13 : Int32) = nI 13 from rfl, show (2 : Int32) = nI 2 from rfl, pk_mul, nI_add, fm_rd (by omega) (by omega), fm_bs, se]
    by_cases c : (fm_xx X i).1 = s
    · rw [if_pos (k1.mpr c), fm_bind, fm_bind]
      refine (fy_needs h2 wt wx hw hi rk2 (by omega)).mono ?_
      rintro ⟨r, ξ⟩ ⟨f, e, f1, F2, Z2, h62, k3, kk3, rk3⟩
      simp only at e F2 Z2 h62 rk3 ⊢
      subst e
      have := fp_few_un f1 (hg i hi)
      subst this
      rw [fm_some, fm_nm, fm_nm, fm_nm, fm_some, fm_Kl]
      have kb3 : k3 ≤ k + 1024 * (i + 1) := by rw [Nat.mul_succ, ← Nat.add_assoc]; exact Nat.le_trans kk3 (Nat.add_le_add_right kk 1024)
      have FF : fm_F [0, 6, 13, 15, 16, 22] μ ξ := F.tr F2
      have ZZ : ∀ j, j ≠ 21 → ξ.1 0 j = μ.1 0 j := fun j hj => (Z2 j hj).trans (Z j hj)
      have HH : ∀ i, i < 10 → ξ.1 6 i = μ.1 6 i := fun i hi => (h62 i hi).trans (h6 i hi)
      by_cases q : g i < (fsd X g s i).2
      · rw [if_neg (nI_ge q (by omega)), if_neg (nI_ge q (by omega)), new ⟨c, q⟩]
        exact ⟨rfl, rfl, nI_1 i, FF, ZZ, HH, k3, kb3, rk3⟩
      · rw [if_pos (nI_le (by omega) (by omega)), if_pos (nI_le (by omega) (by omega)), old (fun z => q z.2)]
        exact ⟨rfl, rfl, nI_1 i, FF, ZZ, HH, k3, kb3, rk3⟩
    · rw [if_neg (fun z => c (k1.mp z)), fm_bs, fm_nm, fm_nm, fm_nm, fm_some, fm_Kl]
      simp only
      rw [show (99 : Int32) = nI 99 from rfl, if_pos (nI_le (by omega) (by omega)), if_pos (nI_le (by omega) (by omega)), old (fun z => c z.1)]
      exact ⟨rfl, rfl, nI_1 i, F, Z, h6, k2, by omega, rk2⟩
  · rintro ⟨b, l, x, ν⟩ ⟨e1, e2, e3, F, Z, h6, k2, kk, rk2⟩
    simp only at e1 e2 e3 F Z h6 rk2
    subst e1 e2 e3
    unfold f_M_said_L23
    try dsimp only
    rw [Z 9 (by decide), h.2.1.1, if_pos (nI_le (Nat.le_refl _) (by omega)), fm_some, fm_Kr]
    exact ⟨rfl, F, Z, h6, k2, by omega, rk2⟩
/-- FEWEST is there -/
theorem fp_few_ex (can : Nat → Prop) {s : Nat} (hs : s < 1024) : ∃ f, fp_few can s f := by
  by_cases h : ∃ k, fp_part can k s
  · obtain ⟨f, f1, f2⟩ := pk_least (fun k => fp_part can k s) h
    have := fp_part_n f s hs f1
    have := fs_n10 s
    exact ⟨f, Or.inl ⟨by omega, f1, f2⟩⟩
  · exact ⟨99, Or.inr ⟨rfl, fun k hk => h ⟨k, hk⟩⟩⟩
theorem fp_few_1le {can : Nat → Prop} {s f : Nat} (s0 : s ≠ 0) (h : fp_few can s f) : 1 ≤ f := by
  rcases h with ⟨_, h, _⟩ | ⟨h, _⟩
  · cases f with
    | zero => exact absurd h s0
    | succ f => omega
  · omega
theorem fo_said : fw_O_said fm_I := by
  intro n μx μm hn hI a1
  have hI2 := hI.up
  obtain ⟨⟨C, wc, xs, ms, kp⟩, im, tp, sh, rk⟩ := hI
  unfold f_X_said f_M_said
  rw [fh_isSense, fh_inN (a := a1) (c := 3) 4 rfl (by omega)]
  by_cases g : 0 ≤ a1 ∧ a1 < 4
  · obtain ⟨s, hs, rfl⟩ := fh_cs (n := 4) (by omega) g
    have key : ∀ i, ∃ f, i < C.2.2.2.2.1.length → fp_few (fp_can C.1 (fm_xx C.2.2.2.2.1 i).2 (C.2.2.2.1 0)) (fp_all (fm_xx C.2.2.2.2.1 i).2) f ∧ 1 ≤ f ∧ (f ≤ 10 ∨ f = 99) := fun i => by
      by_cases q : i < C.2.2.2.2.1.length
      · obtain ⟨y1, y2, y3⟩ := wc.2.2.2.2.1.2 i q
        obtain ⟨b0, b1⟩ := fp_all_b y2 (by omega)
        obtain ⟨f, hf⟩ := fp_few_ex (fp_can C.1 (fm_xx C.2.2.2.2.1 i).2 (C.2.2.2.1 0)) b1
        exact ⟨f, fun _ => ⟨hf, fp_few_1le b0 hf, fp_few_10 b1 hf⟩⟩
      · exact ⟨0, fun z => absurd z q⟩
    obtain ⟨gg, hg⟩ := Classical.axiomOfChoice key
    obtain ⟨k, hk, rkn⟩ := rk.n
    obtain ⟨⟨r, νx⟩, e1, e2, F, kp2⟩ := fx_said wc xs kp hs (fun i hi => (hg i hi).1) (fun i hi => (hg i hi).2)
    obtain ⟨⟨r2, νm⟩, e3, e4, G, Z, h6, ⟨k2, kk, rk2⟩⟩ := fy_said (s := s) ⟨ms.1, ms.2.2.2.2.1, ms.2.2.2.1 0 (by omega)⟩ wc.1.w2 wc.2.2.2.2.1 wc.2.2.2.1.1 rkn (by omega) hs (fun i hi => (hg i hi).1) (fun i hi => (hg i hi).2)
    simp only at e2 F kp2 e4 G Z h6 rk2
    subst e2 e4
    rw [if_pos g, fm_bs, if_neg fm_n10, if_pos (show 0 ≤ nI s ∧ nI s < nI 4 from g), fm_bs, if_neg fm_n10, e1, fm_bs, e3, fm_bs]
    exact ⟨_, _, _, rfl, rfl, fm_mk wc (xs.cong (F.rg 1 31) wc.2.2.2.2.1.1) (mS.nd wc ms G Z h6) kp2 im tp sh (rk2.k (by omega)) F G (Z 15 (by decide)) (Z 32 (by decide))⟩
  · rw [if_neg g, if_neg (show ¬ (0 ≤ a1 ∧ a1 < nI 4) from g)]
    exact ⟨_, _, _, rfl, rfl, hI2⟩
/-! lost -/
noncomputable def fmk (p : Nat → Prop) : Nat → Nat
  | 0 => 0
  | i + 1 => @ite _ (p i) (Classical.propDecidable _) (fmk p i ||| 2 ^ i) (fmk p i)
theorem fmk1 {p : Nat → Prop} {i : Nat} (h : p i) : fmk p (i + 1) = fmk p i ||| 2 ^ i := if_pos h
theorem fmk0 {p : Nat → Prop} {i : Nat} (h : ¬ p i) : fmk p (i + 1) = fmk p i := if_neg h
theorem fmk_b (p : Nat → Prop) : ∀ n j, (fmk p n).testBit j = true ↔ (j < n ∧ p j) := by
  intro n
  induction n with
  | zero => intro j; show (0 : Nat).testBit j = true ↔ _; simp
  | succ n ih =>
    intro j
    by_cases h : p n
    · rw [fmk1 h, fm_or_bit, Bool.or_eq_true, ih j, decide_eq_true_eq]
      constructor
      · rintro (⟨a, b⟩ | e)
        · exact ⟨by omega, b⟩
        · rw [e]; exact ⟨by omega, h⟩
      · rintro ⟨a, b⟩
        by_cases e : j = n
        · exact Or.inr e
        · exact Or.inl ⟨by omega, b⟩
    · rw [fmk0 h, ih j]
      constructor
      · rintro ⟨a, b⟩; exact ⟨by omega, b⟩
      · rintro ⟨a, b⟩
        refine ⟨?_, b⟩
        by_cases e : j = n
        · rw [e] at b; exact absurd b h
        · omega
theorem fmk_lt (p : Nat → Prop) : ∀ n, fmk p n < 2 ^ n := by
  intro n
  apply Nat.lt_pow_two_of_testBit
  intro i hi
  cases e : (fmk p n).testBit i
  · rfl
  · have := ((fmk_b p n i).mp e).1; omega
theorem fx_lost {μ : fw_M} {C : fm_C} {e : Nat} (wc : wC C) (xs : xS 1 μ C) (he : e < C.1.length) : fw_wh (f_X_lost_L20 (nI e) μ) fw_N (0, 0) = some (nI (fmk (fun i => (∃ k, fp_part (fp_can C.1 (fm_xx C.2.2.2.2.1 i).2 (C.2.2.2.1 0)) k (fp_all (fm_xx C.2.2.2.2.1 i).2)) ∧ ¬ fV (fun j => ∃ t, t < C.1.length ∧ nI t ≠ nI e ∧ fp_pr C.1 (fm_xx C.2.2.2.2.1 i).2 t j) (fun j => ∃ t, t < C.1.length ∧ nI t ≠ nI e ∧ fp_jn C.1 (fm_xx C.2.2.2.2.1 i).2 t j) (fp_bs (fm_xx C.2.2.2.2.1 i).2) (fm_xx C.2.2.2.2.1 i).2.1.length) C.2.2.2.2.1.length)) := by
  have h8 := wc.2.2.2.2.1.1
  generalize hp : (fun i => (∃ k, fp_part (fp_can C.1 (fm_xx C.2.2.2.2.1 i).2 (C.2.2.2.1 0)) k (fp_all (fm_xx C.2.2.2.2.1 i).2)) ∧ ¬ fV (fun j => ∃ t, t < C.1.length ∧ nI t ≠ nI e ∧ fp_pr C.1 (fm_xx C.2.2.2.2.1 i).2 t j) (fun j => ∃ t, t < C.1.length ∧ nI t ≠ nI e ∧ fp_jn C.1 (fm_xx C.2.2.2.2.1 i).2 t j) (fp_bs (fm_xx C.2.2.2.2.1 i).2) (fm_xx C.2.2.2.2.1 i).2.1.length) = p
  apply fm_eq
  refine fm_up (P := fun i st => st = (nI (fmk p i), nI i)) C.2.2.2.2.1.length ?_ ?_ 0 (Nat.zero_le _) rfl (by omega)
  · rintro i _ hi rfl
    have hok := fh_okT i (by omega)
    have hL : xL (11 + 2 * i) μ (fm_xx C.2.2.2.2.1 i).2 := by
      have := (xs.2.2.2.2.1.2 i hi).1
      rw [show 1 + 10 + 2 * i = 11 + 2 * i by omega] at this
      exact this
    have wl := (wc.2.2.2.2.1.2 i hi).2.1
    unfold f_X_lost_L20
    try dsimp only
    rw [show μ.1 1 6 = nI C.2.2.2.2.1.length from xs.2.2.2.2.1.1, if_neg (nI_ge hi (by omega)), fh_rq8 (by omega), fm_bs, if_pos hok, fx_say1 (w := C.2.2.2.1 0) hok xs.1 wc.1 hL wl, fm_bs]
    by_cases c1 : ∃ k, fp_part (fp_can C.1 (fm_xx C.2.2.2.2.1 i).2 (C.2.2.2.1 0)) k (fp_all (fm_xx C.2.2.2.2.1 i).2)
    · rw [fB1 c1, if_neg fm_n10, fm_bs, if_pos hok, fx_say hok xs.1 wc.1 hL wl, fm_bs]
      by_cases c2 : fV (fun j => ∃ t, t < C.1.length ∧ nI t ≠ nI e ∧ fp_pr C.1 (fm_xx C.2.2.2.2.1 i).2 t j) (fun j => ∃ t, t < C.1.length ∧ nI t ≠ nI e ∧ fp_jn C.1 (fm_xx C.2.2.2.2.1 i).2 t j) (fp_bs (fm_xx C.2.2.2.2.1 i).2) (fm_xx C.2.2.2.2.1 i).2.1.length
      · rw [fB1 c2, if_neg fm_n10, fm_bs, fm_nm, fm_some, fm_Kl, fmk0 (by rw [← hp]; exact fun z => z.2 c2), nI_1]
      · rw [fB0 c2, if_pos rfl, fm_nmE, fm_bs, fm_nm, fm_some, fm_Kl, fmk1 (by rw [← hp]; exact ⟨c1, c2⟩), fm_one (by omega), fm_or, nI_1]
    · rw [fB0 c1, if_pos rfl, fm_bs, fm_nm, fm_some, fm_Kl, fmk0 (by rw [← hp]; exact fun z => c1 z.1), nI_1]
  · rintro _ rfl
    unfold f_X_lost_L20
    try dsimp only
    rw [show μ.1 1 6 = nI C.2.2.2.2.1.length from xs.2.2.2.2.1.1, if_pos (nI_le (Nat.le_refl _) (by omega)), fm_some, fm_Kr]
theorem fy_lost14 {μ : fw_M} {T : List fm_Ty} {X : List (Nat × fm_Li)} {w k : Nat} (h : hN μ T X w) (wt : wT2 T) (wx : wX X) (hw : w ≤ 1) (hk : rKn k μ) (kb : k + 10000 < 2000000000) : fm_T (fw_wh (f_M_lost_L14) fw_N (0, 0, μ)) (fun p => p.1 = nI (fmk (fun i => ∃ k, fp_part (fp_can T (fm_xx X i).2 w) k (fp_all (fm_xx X i).2)) X.length) ∧ fm_F [0, 6, 13, 15, 16, 22] μ p.2 ∧ (∀ j, j ≠ 21 → p.2.1 0 j = μ.1 0 j) ∧ (∀ i, i < 10 → p.2.1 6 i = μ.1 6 i) ∧ ∃ k2, k2 ≤ k + 8192 ∧ rKn k2 p.2) := by
  have h8 := wx.1
  generalize hp : (fun i => ∃ k, fp_part (fp_can T (fm_xx X i).2 w) k (fp_all (fm_xx X i).2)) = p
  refine fm_up (P := fun i st => st.1 = nI (fmk p i) ∧ st.2.1 = nI i ∧ fm_F [0, 6, 13, 15, 16, 22] μ st.2.2 ∧ (∀ j, j ≠ 21 → st.2.2.1 0 j = μ.1 0 j) ∧ (∀ i, i < 10 → st.2.2.1 6 i = μ.1 6 i) ∧ ∃ k2, k2 ≤ k + 1024 * i ∧ rKn k2 st.2.2) X.length ?_ ?_ 0 (Nat.zero_le _) ⟨rfl, rfl, fm_F.rf, fun _ _ => rfl, fun _ _ => rfl, k, by omega, hk⟩ (by omega)
  · rintro i ⟨b, x, ν⟩ hi ⟨e1, e3, F, Z, h6, k2, kk, rk2⟩
    simp only at e1 e3 F Z h6 rk2
    subst e1 e3
    have h2 : hN ν T X w := h.cong F (Z 0 (by decide)) (Z 9 (by decide))
    obtain ⟨y1, y2, y3⟩ := wx.2 i hi
    obtain ⟨b0, b1⟩ := fp_all_b y2 (by omega)
    unfold f_M_lost_L14
    try dsimp only
    rw [h2.2.1.1, if_neg (nI_ge hi (by omega)), fm_bind]
    refine (fy_needs h2 wt wx hw hi rk2 (by omega)).mono ?_
    rintro ⟨r, ξ⟩ ⟨f, e, f1, F2, Z2, h62, k3, kk3, rk3⟩
    simp only at e F2 Z2 h62 rk3 ⊢
    subst e
    have f10 := fp_few_10 b1 f1
    rw [fm_nm, fm_nm, fm_nm, fm_some, fm_Kl]
    have kb3 : k3 ≤ k + 1024 * (i + 1) := by rw [Nat.mul_succ, ← Nat.add_assoc]; exact Nat.le_trans kk3 (Nat.add_le_add_right kk 1024)
    have FF : fm_F [0, 6, 13, 15, 16, 22] μ ξ := F.tr F2
    have ZZ : ∀ j, j ≠ 21 → ξ.1 0 j = μ.1 0 j := fun j hj => (Z2 j hj).trans (Z j hj)
    have HH : ∀ i, i < 10 → ξ.1 6 i = μ.1 6 i := fun i hi => (h62 i hi).trans (h6 i hi)
    by_cases q : f = 99
    · have np : ¬ p i := by
        rw [← hp]
        rintro ⟨j, hj⟩
        rcases f1 with ⟨z, _⟩ | ⟨_, z⟩
        · omega
        · exact z j hj
      rw [q, if_pos (show (99 : Int32) ≤ nI 99 by decide), fmk0 np, show (0 : Int32) = nI 0 from rfl, fm_or, Nat.or_zero]
      exact ⟨rfl, nI_1 i, FF, ZZ, HH, k3, kb3, rk3⟩
    · have yp : p i := by
        rw [← hp]
        rcases f1 with ⟨_, z, _⟩ | ⟨z, _⟩
        · exact ⟨f, z⟩
        · exact absurd z q
      rw [if_neg (fh_nge (c := 99) (b := 99) rfl (by omega) (by omega)), fmk1 yp, fm_one (by omega), fm_or]
      exact ⟨rfl, nI_1 i, FF, ZZ, HH, k3, kb3, rk3⟩
  · rintro ⟨b, x, ν⟩ ⟨e1, e3, F, Z, h6, k2, kk, rk2⟩
    simp only at e1 e3 F Z h6 rk2
    subst e1 e3
    unfold f_M_lost_L14
    try dsimp only
    rw [Z 9 (by decide), h.2.1.1, if_pos (nI_le (Nat.le_refl _) (by omega)), fm_some, fm_Kr]
    exact ⟨rfl, F, Z, h6, k2, by omega, rk2⟩
theorem fy_lost85 {μ : fw_M} {T : List fm_Ty} {X : List (Nat × fm_Li)} {w k : Nat} (h : hN μ T X w) (wt : wT2 T) (wx : wX X) (hw : w ≤ 1) (hk : rKn k μ) (kb : k + 10000 < 2000000000) : fm_T (fw_wh (f_M_lost_L85) fw_N (0, 0, μ)) (fun p => p.1 = nI (fmk (fun i => ∃ k, fp_part (fp_can T (fm_xx X i).2 w) k (fp_all (fm_xx X i).2)) X.length) ∧ fm_F [0, 6, 13, 15, 16, 22] μ p.2 ∧ (∀ j, j ≠ 21 → p.2.1 0 j = μ.1 0 j) ∧ (∀ i, i < 10 → p.2.1 6 i = μ.1 6 i) ∧ ∃ k2, k2 ≤ k + 8192 ∧ rKn k2 p.2) := by
  have h8 := wx.1
  generalize hp : (fun i => ∃ k, fp_part (fp_can T (fm_xx X i).2 w) k (fp_all (fm_xx X i).2)) = p
  refine fm_up (P := fun i st => st.1 = nI (fmk p i) ∧ st.2.1 = nI i ∧ fm_F [0, 6, 13, 15, 16, 22] μ st.2.2 ∧ (∀ j, j ≠ 21 → st.2.2.1 0 j = μ.1 0 j) ∧ (∀ i, i < 10 → st.2.2.1 6 i = μ.1 6 i) ∧ ∃ k2, k2 ≤ k + 1024 * i ∧ rKn k2 st.2.2) X.length ?_ ?_ 0 (Nat.zero_le _) ⟨rfl, rfl, fm_F.rf, fun _ _ => rfl, fun _ _ => rfl, k, by omega, hk⟩ (by omega)
  · rintro i ⟨b, x, ν⟩ hi ⟨e1, e3, F, Z, h6, k2, kk, rk2⟩
    simp only at e1 e3 F Z h6 rk2
    subst e1 e3
    have h2 : hN ν T X w := h.cong F (Z 0 (by decide)) (Z 9 (by decide))
    obtain ⟨y1, y2, y3⟩ := wx.2 i hi
    obtain ⟨b0, b1⟩ := fp_all_b y2 (by omega)
    unfold f_M_lost_L85
    try dsimp only
    rw [h2.2.1.1, if_neg (nI_ge hi (by omega)), fm_bind]
    refine (fy_needs h2 wt wx hw hi rk2 (by omega)).mono ?_
    rintro ⟨r, ξ⟩ ⟨f, e, f1, F2, Z2, h62, k3, kk3, rk3⟩
    simp only at e F2 Z2 h62 rk3 ⊢
    subst e
    have f10 := fp_few_10 b1 f1
    rw [fm_nm, fm_nm, fm_nm, fm_some, fm_Kl]
    have kb3 : k3 ≤ k + 1024 * (i + 1) := by rw [Nat.mul_succ, ← Nat.add_assoc]; exact Nat.le_trans kk3 (Nat.add_le_add_right kk 1024)
    have FF : fm_F [0, 6, 13, 15, 16, 22] μ ξ := F.tr F2
    have ZZ : ∀ j, j ≠ 21 → ξ.1 0 j = μ.1 0 j := fun j hj => (Z2 j hj).trans (Z j hj)
    have HH : ∀ i, i < 10 → ξ.1 6 i = μ.1 6 i := fun i hi => (h62 i hi).trans (h6 i hi)
    by_cases q : f = 99
    · have np : ¬ p i := by
        rw [← hp]
        rintro ⟨j, hj⟩
        rcases f1 with ⟨z, _⟩ | ⟨_, z⟩
        · omega
        · exact z j hj
      rw [q, if_pos (show (99 : Int32) ≤ nI 99 by decide), fmk0 np, show (0 : Int32) = nI 0 from rfl, fm_or, Nat.or_zero]
      exact ⟨rfl, nI_1 i, FF, ZZ, HH, k3, kb3, rk3⟩
    · have yp : p i := by
        rw [← hp]
        rcases f1 with ⟨_, z, _⟩ | ⟨z, _⟩
        · exact ⟨f, z⟩
        · exact absurd z q
      rw [if_neg (fh_nge (c := 99) (b := 99) rfl (by omega) (by omega)), fmk1 yp, fm_one (by omega), fm_or]
      exact ⟨rfl, nI_1 i, FF, ZZ, HH, k3, kb3, rk3⟩
  · rintro ⟨b, x, ν⟩ ⟨e1, e3, F, Z, h6, k2, kk, rk2⟩
    simp only at e1 e3 F Z h6 rk2
    subst e1 e3
    unfold f_M_lost_L85
    try dsimp only
    rw [Z 9 (by decide), h.2.1.1, if_pos (nI_le (Nat.le_refl _) (by omega)), fm_some, fm_Kr]
    exact ⟨rfl, F, Z, h6, k2, by omega, rk2⟩
/-- a type that prints nothing -/
def fm_off (T : List fm_Ty) (e : Nat) : List fm_Ty := T.set e (0, 4294967295, 0)
theorem fm_off_tt {T : List fm_Ty} {e i : Nat} (he : e < T.length) : fm_tt (fm_off T e) i = if i = e then (0, 4294967295, 0) else fm_tt T i := by
  unfold fm_tt fm_off
  rw [List.getD_eq_getElem?_getD, List.getD_eq_getElem?_getD, List.getElem?_set]
  by_cases q : i = e
  · subst q
    rw [if_pos rfl, if_pos rfl]
    simp [he]
  · rw [if_neg (fun z => q z.symm), if_neg q]
theorem fm_off_len {T : List fm_Ty} {e : Nat} : (fm_off T e).length = T.length := List.length_set
theorem fm_off_pr {T : List fm_Ty} {L : fm_Li} {e t p : Nat} (he : e < T.length) (wl : wL L) (hp : p < L.1.length) : fp_pr (fm_off T e) L t p ↔ (t ≠ e ∧ fp_pr T L t p) := by
  have c := wl.2.1 p hp
  unfold fp_pr
  rw [fm_off_tt he]
  by_cases q : t = e
  · rw [if_pos q]
    refine ⟨fun z => ?_, fun z => absurd q z.1⟩
    rcases z with z | z
    · have := z.2; simp only at this; omega
    · have := z.1; simp only at this; omega
  · rw [if_neg q]
    exact ⟨fun z => ⟨q, z⟩, fun z => z.2⟩
theorem fm_off_jn {T : List fm_Ty} {L : fm_Li} {e t p : Nat} (he : e < T.length) : fp_jn (fm_off T e) L t p ↔ (t ≠ e ∧ fp_jn T L t p) := by
  unfold fp_jn
  rw [fm_off_tt he]
  by_cases q : t = e
  · rw [if_pos q]
    refine ⟨fun z => ?_, fun z => absurd q z.1⟩
    have := z.1; simp only at this; omega
  · rw [if_neg q]
    exact ⟨fun z => ⟨q, z⟩, fun z => z.2⟩
theorem fo_lost : fw_O_lost fm_I := by
  intro n μx μm hn hI a1
  have hI2 := hI.up
  obtain ⟨⟨C, wc, xs, ms, kp⟩, im, tp, sh, rk⟩ := hI
  have hsx : μx.1 2 3 = nI C.1.length := xs.1.1
  have hsm : μm.1 0 0 = nI C.1.length := ms.1.1
  have t10 := wc.1.1
  have h8 := wc.2.2.2.2.1.1
  unfold f_X_lost f_M_lost
  rw [fh_has, fh_isOne hsm (by omega), hsx]
  by_cases h : 0 ≤ a1 ∧ a1 < nI C.1.length
  · obtain ⟨e, he, rfl⟩ := fh_cs (by omega) h
    obtain ⟨k, hk, rkn⟩ := rk.n
    rw [if_pos h, fm_bs, fm_bs, if_neg fm_n10, if_neg fm_n10, fx_lost wc xs he, fm_bs]
    obtain ⟨⟨r1, ν1⟩, e1, e2, G1, Z1, h61, ⟨k1, kk1, rk1⟩⟩ := fy_lost14 (T := C.1) (X := C.2.2.2.2.1) (w := C.2.2.2.1 0) ⟨ms.1, ms.2.2.2.2.1, ms.2.2.2.1 0 (by omega)⟩ wc.1.w2 wc.2.2.2.2.1 wc.2.2.2.1.1 rkn (by omega)
    simp only at e2 G1 Z1 h61 rk1
    subst e2
    have r : ∀ f : Nat → Int32, fw_rd 10 f (nI e) = some (f e) := fun f => fm_rd (by omega) (by omega)
    rw [e1, fm_bs]
    simp only [r, fm_bs]
    rw [fy_comes (by omega), fm_bs]
    generalize hν2 : fw_wr (fw_wr (fw_wr ν1 1 e 0) 2 e (-1)) 3 e 0 = ν2
    have F2 : fm_F [1, 2, 3] ν1 ν2 := by rw [← hν2]; exact ((fm_F.rf.wr).wr).wr
    have q1 : ∀ i, ν2.1 1 i = if i = e then 0 else ν1.1 1 i := fun i => by
      rw [← hν2, fm_wrn (by decide), fm_wrn (by decide), fm_wr]
      by_cases z : i = e
      · rw [if_pos ⟨rfl, z⟩, if_pos z]
      · rw [if_neg (fun y => z y.2), if_neg z]
    have q2 : ∀ i, ν2.1 2 i = if i = e then (-1) else ν1.1 2 i := fun i => by
      rw [← hν2, fm_wrn (by decide), fm_wr]
      by_cases z : i = e
      · rw [if_pos ⟨rfl, z⟩, if_pos z]
      · rw [if_neg (fun y => z y.2), if_neg z, fm_wrn (by decide)]
    have q3 : ∀ i, ν2.1 3 i = if i = e then 0 else ν1.1 3 i := fun i => by
      rw [← hν2, fm_wr]
      by_cases z : i = e
      · rw [if_pos ⟨rfl, z⟩, if_pos z]
      · rw [if_neg (fun y => z y.2), if_neg z, fm_wrn (by decide), fm_wrn (by decide)]
    have T2 : rT (ν2.1 0 0) (ν2.1 1) (ν2.1 2) (ν2.1 3) (fm_off C.1 e) := by
      refine ⟨by rw [F2.at 0, Z1 0 (by decide), fm_off_len]; exact hsm, fun i hi => ?_⟩
      rw [fm_off_len] at hi
      rw [q1, q2, q3, fm_off_tt he]
      by_cases z : i = e
      · rw [if_pos z, if_pos z, if_pos z, if_pos z]; exact ⟨rfl, rfl, rfl⟩
      · rw [if_neg z, if_neg z, if_neg z, if_neg z, G1.at 1, G1.at 2, G1.at 3]; exact ms.1.2 i hi
    have wt2 : wT2 (fm_off C.1 e) := by
      refine ⟨by rw [fm_off_len]; exact t10, fun i hi => ?_⟩
      rw [fm_off_len] at hi
      rw [fm_off_tt he]
      by_cases z : i = e
      · rw [if_pos z]; exact ⟨by show 0 < _; omega, by show 4294967295 < _; omega, by show 0 < _; omega⟩
      · rw [if_neg z]; exact wc.1.w2.2 i hi
    obtain ⟨⟨r3, ν3⟩, e3, e4, G3, Z3, h63, ⟨k3, kk3, rk3⟩⟩ := fy_lost85 (T := fm_off C.1 e) (X := C.2.2.2.2.1) (w := C.2.2.2.1 0) (μ := ν2) ⟨T2, ms.2.2.2.2.1.cong (by rw [F2.at 0, Z1 9 (by decide)]) (by rw [F2.at 7, G1.at 7]), by rw [F2.at 5, G1.at 5]; exact ms.2.2.2.1 0 (by omega)⟩ wt2 wc.2.2.2.2.1 wc.2.2.2.1.1 (rk1.up (l := 0) F2 (by rw [F2.at 0])) (by omega)
    simp only at e4 G3 Z3 h63 rk3
    subst e4
    rw [e3, fm_bs]
    simp only
    rw [fy_comes (by omega), fm_bs, fm_andn]
    have em : fmk (fun i => (∃ k, fp_part (fp_can C.1 (fm_xx C.2.2.2.2.1 i).2 (C.2.2.2.1 0)) k (fp_all (fm_xx C.2.2.2.2.1 i).2)) ∧ ¬ fV (fun j => ∃ t, t < C.1.length ∧ nI t ≠ nI e ∧ fp_pr C.1 (fm_xx C.2.2.2.2.1 i).2 t j) (fun j => ∃ t, t < C.1.length ∧ nI t ≠ nI e ∧ fp_jn C.1 (fm_xx C.2.2.2.2.1 i).2 t j) (fp_bs (fm_xx C.2.2.2.2.1 i).2) (fm_xx C.2.2.2.2.1 i).2.1.length) C.2.2.2.2.1.length = (fmk (fun i => ∃ k, fp_part (fp_can C.1 (fm_xx C.2.2.2.2.1 i).2 (C.2.2.2.1 0)) k (fp_all (fm_xx C.2.2.2.2.1 i).2)) C.2.2.2.2.1.length) ^^^ ((fmk (fun i => ∃ k, fp_part (fp_can C.1 (fm_xx C.2.2.2.2.1 i).2 (C.2.2.2.1 0)) k (fp_all (fm_xx C.2.2.2.2.1 i).2)) C.2.2.2.2.1.length) &&& (fmk (fun i => ∃ k, fp_part (fp_can (fm_off C.1 e) (fm_xx C.2.2.2.2.1 i).2 (C.2.2.2.1 0)) k (fp_all (fm_xx C.2.2.2.2.1 i).2)) C.2.2.2.2.1.length)) := by
      apply Nat.eq_of_testBit_eq
      intro j
      have b1 := fmk_b (fun i => (∃ k, fp_part (fp_can C.1 (fm_xx C.2.2.2.2.1 i).2 (C.2.2.2.1 0)) k (fp_all (fm_xx C.2.2.2.2.1 i).2)) ∧ ¬ fV (fun j => ∃ t, t < C.1.length ∧ nI t ≠ nI e ∧ fp_pr C.1 (fm_xx C.2.2.2.2.1 i).2 t j) (fun j => ∃ t, t < C.1.length ∧ nI t ≠ nI e ∧ fp_jn C.1 (fm_xx C.2.2.2.2.1 i).2 t j) (fp_bs (fm_xx C.2.2.2.2.1 i).2) (fm_xx C.2.2.2.2.1 i).2.1.length) C.2.2.2.2.1.length j
      have b2 := fmk_b (fun i => ∃ k, fp_part (fp_can C.1 (fm_xx C.2.2.2.2.1 i).2 (C.2.2.2.1 0)) k (fp_all (fm_xx C.2.2.2.2.1 i).2)) C.2.2.2.2.1.length j
      have b3 := fmk_b (fun i => ∃ k, fp_part (fp_can (fm_off C.1 e) (fm_xx C.2.2.2.2.1 i).2 (C.2.2.2.1 0)) k (fp_all (fm_xx C.2.2.2.2.1 i).2)) C.2.2.2.2.1.length j
      have b4 : j < C.2.2.2.2.1.length → (fV (fun i => ∃ t, t < C.1.length ∧ nI t ≠ nI e ∧ fp_pr C.1 (fm_xx C.2.2.2.2.1 j).2 t i) (fun i => ∃ t, t < C.1.length ∧ nI t ≠ nI e ∧ fp_jn C.1 (fm_xx C.2.2.2.2.1 j).2 t i) (fp_bs (fm_xx C.2.2.2.2.1 j).2) (fm_xx C.2.2.2.2.1 j).2.1.length ↔ ∃ k, fp_part (fp_can (fm_off C.1 e) (fm_xx C.2.2.2.2.1 j).2 (C.2.2.2.1 0)) k (fp_all (fm_xx C.2.2.2.2.1 j).2)) := fun hj => by
        have wl := (wc.2.2.2.2.1.2 j hj).2.1
        rw [← fV_iff]
        refine fV_c (n := (fm_xx C.2.2.2.2.1 j).2.1.length) (fun i hi => ?_) (fun i hi => ?_) _ (Nat.le_refl _)
        · rw [fm_off_len]
          constructor
          · rintro ⟨t, t1, t2, t3⟩
            exact ⟨t, t1, (fm_off_pr he wl hi).mpr ⟨fun z => t2 (by rw [z]), t3⟩⟩
          · rintro ⟨t, t1, t2⟩
            obtain ⟨t3, t4⟩ := (fm_off_pr he wl hi).mp t2
            exact ⟨t, t1, fun z => t3 ((nI_eq (by omega) (by omega)).mp z), t4⟩
        · rw [fm_off_len]
          constructor
          · rintro ⟨t, t1, t2, t3⟩
            exact ⟨t, t1, (fm_off_jn he).mpr ⟨fun z => t2 (by rw [z]), t3⟩⟩
          · rintro ⟨t, t1, t2⟩
            obtain ⟨t3, t4⟩ := (fm_off_jn he).mp t2
            exact ⟨t, t1, fun z => t3 ((nI_eq (by omega) (by omega)).mp z), t4⟩
      rw [Nat.testBit_xor, Nat.testBit_and]
      rw [Bool.eq_iff_iff, b1]
      cases c2 : (fmk (fun i => ∃ k, fp_part (fp_can C.1 (fm_xx C.2.2.2.2.1 i).2 (C.2.2.2.1 0)) k (fp_all (fm_xx C.2.2.2.2.1 i).2)) C.2.2.2.2.1.length).testBit j
      · have n2 : ¬ (j < C.2.2.2.2.1.length ∧ ∃ k, fp_part (fp_can C.1 (fm_xx C.2.2.2.2.1 j).2 (C.2.2.2.1 0)) k (fp_all (fm_xx C.2.2.2.2.1 j).2)) := fun z => by rw [b2.mpr z] at c2; cases c2
        simp
        intro z1 x y
        exact absurd ⟨z1, x, y⟩ n2
      · have y2 := b2.mp c2
        have b5 := b4 y2.1
        cases c3 : (fmk (fun i => ∃ k, fp_part (fp_can (fm_off C.1 e) (fm_xx C.2.2.2.2.1 i).2 (C.2.2.2.1 0)) k (fp_all (fm_xx C.2.2.2.2.1 i).2)) C.2.2.2.2.1.length).testBit j
        · have n3 : ¬ ∃ k, fp_part (fp_can (fm_off C.1 e) (fm_xx C.2.2.2.2.1 j).2 (C.2.2.2.1 0)) k (fp_all (fm_xx C.2.2.2.2.1 j).2) := fun z => by rw [b3.mpr ⟨y2.1, z⟩] at c3; cases c3
          exact ⟨fun _ => rfl, fun _ => ⟨y2.1, y2.2, fun z => n3 (b5.mp z)⟩⟩
        · have y3 := b3.mp c3
          exact ⟨fun z => absurd (b5.mpr y3.2) z.2.2, fun z => by cases z⟩
    rw [← em]
    refine ⟨_, _, rfl, rfl, ?_⟩
    · have G : fm_F [0, 1, 2, 3, 6, 13, 15, 16, 22] μm (fw_wr (fw_wr (fw_wr ν3 1 e (ν1.1 1 e)) 2 e (ν1.1 2 e)) 3 e (ν1.1 3 e)) := (((((G1.up : fm_F [0, 1, 2, 3, 6, 13, 15, 16, 22] μm ν1).tr F2.up).tr G3.up).wr).wr).wr
      have Z : ∀ j, j ≠ 21 → (fw_wr (fw_wr (fw_wr ν3 1 e (ν1.1 1 e)) 2 e (ν1.1 2 e)) 3 e (ν1.1 3 e)).1 0 j = μm.1 0 j := fun j hj => by
        rw [fm_wrn (by decide), fm_wrn (by decide), fm_wrn (by decide), Z3 j hj, F2.at 0, Z1 j hj]
      have r1 : ∀ i, (fw_wr (fw_wr (fw_wr ν3 1 e (ν1.1 1 e)) 2 e (ν1.1 2 e)) 3 e (ν1.1 3 e)).1 1 i = μm.1 1 i := fun i => by
        rw [fm_wrn (by decide), fm_wrn (by decide), fm_wr]
        by_cases z : i = e
        · rw [if_pos ⟨rfl, z⟩, z, G1.at 1]
        · rw [if_neg (fun y => z y.2), G3.at 1, q1, if_neg z, G1.at 1]
      have r2 : ∀ i, (fw_wr (fw_wr (fw_wr ν3 1 e (ν1.1 1 e)) 2 e (ν1.1 2 e)) 3 e (ν1.1 3 e)).1 2 i = μm.1 2 i := fun i => by
        rw [fm_wrn (by decide), fm_wr]
        by_cases z : i = e
        · rw [if_pos ⟨rfl, z⟩, z, G1.at 2]
        · rw [if_neg (fun y => z y.2), fm_wrn (by decide), G3.at 2, q2, if_neg z, G1.at 2]
      have r3 : ∀ i, (fw_wr (fw_wr (fw_wr ν3 1 e (ν1.1 1 e)) 2 e (ν1.1 2 e)) 3 e (ν1.1 3 e)).1 3 i = μm.1 3 i := fun i => by
        rw [fm_wr]
        by_cases z : i = e
        · rw [if_pos ⟨rfl, z⟩, z, G1.at 3]
        · rw [if_neg (fun y => z y.2), fm_wrn (by decide), fm_wrn (by decide), G3.at 3, q3, if_neg z, G1.at 3]
      have FX : fm_F [] μx μx := fm_F.rf
      refine fm_mk wc xs (mS.cong2 wc ms (fun j hj => Z j (by omega)) (fun k k1 k9 j hj => ?_)) kp im tp sh ?_ FX G (Z 15 (by decide)) (Z 32 (by decide))
      · by_cases z1 : k = 1
        · subst z1; exact r1 j
        · by_cases z2 : k = 2
          · subst z2; exact r2 j
          · by_cases z3 : k = 3
            · subst z3; exact r3 j
            · by_cases z6 : k = 6
              · subst z6
                rw [fm_wrn (by decide), fm_wrn (by decide), fm_wrn (by decide), h63 j hj, F2.at 6, h61 j hj]
              · rw [G k (by simp; omega)]
      · exact (((rk3.up (l := 0) (fm_F.rf.wr : fm_F [1] ν3 _) (by rw [fm_wrn (by decide)])).up (l := 0) (fm_F.rf.wr : fm_F [2] _ _) (by rw [fm_wrn (by decide)])).up (l := 0) (fm_F.rf.wr : fm_F [3] _ _) (by rw [fm_wrn (by decide)])).k (by omega)
  · rw [if_neg h]
    exact ⟨_, _, rfl, rfl, hI2⟩
