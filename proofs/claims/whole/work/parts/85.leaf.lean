/-! leaf -/
theorem fmk_c {p q : Nat → Prop} : ∀ n, (∀ i, i < n → (p i ↔ q i)) → fmk p n = fmk q n := by
  intro n h
  apply Nat.eq_of_testBit_eq
  intro j
  rw [Bool.eq_iff_iff, fmk_b, fmk_b]
  exact ⟨fun z => ⟨z.1, (h j z.1).mp z.2⟩, fun z => ⟨z.1, (h j z.1).mpr z.2⟩⟩
/-- place p is of pull k -/
def fl_at (it : Nat → Int32) (L : fm_Li) (wd : Nat → Nat) (c k p : Nat) : Prop := it p = nI (fm_lf L wd p + k * c)
theorem fl_un {it : Nat → Int32} {L : fm_Li} {wd : Nat → Nat} {c j k p : Nat} (h1 : fl_at it L wd c j p) (h2 : fl_at it L wd c k p) (c1 : 1 ≤ c) (c3 : c ≤ 3) (l60 : fm_lf L wd p ≤ 60) (hj : j ≤ 100) (hk : k ≤ 100) : j = k := by
  unfold fl_at at h1 h2
  rw [h1] at h2
  have b1 : j * c ≤ 100 * 3 := Nat.mul_le_mul hj c3
  have b2 : k * c ≤ 100 * 3 := Nat.mul_le_mul hk c3
  have h3 := (nI_eq (by omega) (by omega)).mp h2
  have h4 : j * c = k * c := by omega
  exact Nat.eq_of_mul_eq_mul_right (by omega) h4
noncomputable def fl_S (it : Nat → Int32) (L : fm_Li) (wd : Nat → Nat) (c k : Nat) : Nat := fmk (fl_at it L wd c k) L.1.length
/-- what is left behind k pulls -/
noncomputable def fl_R (it : Nat → Int32) (L : fm_Li) (wd : Nat → Nat) (c k : Nat) : Nat := fmk (fun p => ¬ ∃ j, j < k ∧ fl_at it L wd c j p) L.1.length
theorem fl_R0 {it : Nat → Int32} {L : fm_Li} {wd : Nat → Nat} {c : Nat} : fl_R it L wd c 0 = 2 ^ L.1.length - 1 := by
  apply Nat.eq_of_testBit_eq
  intro j
  unfold fl_R
  rw [Bool.eq_iff_iff, fmk_b, fm_allbits, decide_eq_true_eq]
  exact ⟨fun z => z.1, fun z => ⟨z, fun ⟨i, hi, _⟩ => absurd hi (Nat.not_lt_zero _)⟩⟩
theorem fl_RS {it : Nat → Int32} {L : fm_Li} {wd : Nat → Nat} {c k : Nat} (c1 : 1 ≤ c) (c3 : c ≤ 3) (l60 : ∀ p, p < L.1.length → fm_lf L wd p ≤ 60) (hk : k ≤ 50) : fs_in (fl_S it L wd c k) (fl_R it L wd c k) ∧ fl_R it L wd c k ^^^ fl_S it L wd c k = fl_R it L wd c (k + 1) := by
  have i1 : fs_in (fl_S it L wd c k) (fl_R it L wd c k) := fs_of (fun p hp => by
    unfold fl_S at hp
    unfold fl_R
    rw [fmk_b] at hp ⊢
    refine ⟨hp.1, fun ⟨j, j1, j2⟩ => ?_⟩
    have := fl_un j2 hp.2 c1 c3 (l60 p hp.1) (by omega) (by omega)
    omega)
  refine ⟨i1, ?_⟩
  apply Nat.eq_of_testBit_eq
  intro p
  rw [fs_xbit i1, Bool.eq_iff_iff, Bool.and_eq_true, Bool.not_eq_true']
  unfold fl_R
  rw [fmk_b, fmk_b]
  have e : (fl_S it L wd c k).testBit p = false ↔ ¬ (p < L.1.length ∧ fl_at it L wd c k p) := by
    rw [← fmk_b (fl_at it L wd c k) L.1.length p]
    show _ ↔ ¬ (fl_S it L wd c k).testBit p = true
    simp
  rw [e]
  constructor
  · rintro ⟨⟨z1, z2⟩, z3⟩
    refine ⟨z1, fun ⟨j, j1, j2⟩ => ?_⟩
    by_cases q : j = k
    · rw [q] at j2; exact z3 ⟨z1, j2⟩
    · exact z2 ⟨j, by omega, j2⟩
  · rintro ⟨z1, z2⟩
    exact ⟨⟨z1, fun ⟨j, j1, j2⟩ => z2 ⟨j, by omega, j2⟩⟩, fun z => z2 ⟨k, by omega, z.2⟩⟩
theorem fl_Rz {it : Nat → Int32} {L : fm_Li} {wd : Nat → Nat} {c k : Nat} : fl_R it L wd c k = 0 ↔ ∀ p, p < L.1.length → ∃ j, j < k ∧ fl_at it L wd c j p := by
  constructor
  · intro h p hp
    by_cases q : ∃ j, j < k ∧ fl_at it L wd c j p
    · exact q
    · have : (fl_R it L wd c k).testBit p = true := by unfold fl_R; rw [fmk_b]; exact ⟨hp, q⟩
      rw [h] at this; simp at this
  · intro h
    apply Nat.eq_of_testBit_eq
    intro p
    rw [Nat.zero_testBit]
    cases e : (fl_R it L wd c k).testBit p
    · rfl
    · unfold fl_R at e
      rw [fmk_b] at e
      exact absurd (h p e.1) e.2
theorem fy_leafS {μ : fw_M} {T : List fm_Ty} {L : fm_Li} {wd : Nat → Nat} {w c k s i : Nat} {it : Nat → Int32} (h : hM μ T L w) (wl : wL L) (hW : ∀ i, i < 12 → μ.1 4 i = nI (wd i)) (hc : μ.1 5 1 = nI c) (c1 : 1 ≤ c) (c3 : c ≤ 3) (l60 : ∀ p, p < L.1.length → fm_lf L wd p ≤ 60) (hk : k ≤ 50) (hs : s < 4) (hi : i + L.1.length ≤ 24) (hit : ∀ p, p < L.1.length → μ.1 26 (24 * s + i + p) = it p) : fw_wh (f_M_leaf_L80 (nI s) (nI i) (nI (fl_R it L wd c k)) (nI k) μ) fw_N (0, 0) = some (nI (fl_S it L wd c k)) := by
  have l10 := wl.1
  have p10 : 2 ^ L.1.length ≤ 1024 := fm_pow8 (n := 10) l10
  have Rlt : fl_R it L wd c k < 2 ^ L.1.length := fmk_lt _ _
  obtain ⟨sin, _⟩ := fl_RS (it := it) (wd := wd) (k := k) c1 c3 l60 hk
  apply fm_eq
  refine fm_up (P := fun p st => st = (nI (fmk (fl_at it L wd c k) p), nI p)) L.1.length ?_ ?_ 0 (Nat.zero_le _) rfl (by omega)
  · rintro p _ hp rfl
    unfold f_M_leaf_L80
    try dsimp only
    rw [h.2.1.1.1, if_neg (nI_ge hp (by omega)), fm_bit1' (by omega) (by omega)]
    by_cases b : (fl_R it L wd c k).testBit p = true
    · rw [if_pos b, show (24 : Int32) = nI 24 from rfl, pk_mul, nI_add, nI_add, fm_rd (by omega) (by omega), fm_bs, hit p hp, fy_left h.2.1 wl hW (Nat.le_of_lt hp), fm_bs, show (fw_rd 3 (μ.1 5) 1) = some (μ.1 5 1) from fm_rd (j := 1) (by omega) (by omega), fm_bs, hc, pk_mul, nI_add]
      by_cases a : fl_at it L wd c k p
      · rw [if_pos (show it p = nI (fm_lf L wd p + k * c) from a), fm_one (by omega), fm_bs, fm_nm, fm_nm, fm_some, fm_Kl, fm_or, fmk1 a, nI_1]
      · rw [if_neg (show ¬ it p = nI (fm_lf L wd p + k * c) from a), fm_bs, fm_nm, fm_nm, fm_some, fm_Kl, show (0 : Int32) = nI 0 from rfl, fm_or, Nat.or_zero, fmk0 a, nI_1]
    · have a : ¬ fl_at it L wd c k p := fun z => b (fs_bit sin (by unfold fl_S; rw [fmk_b]; exact ⟨hp, z⟩))
      rw [if_neg b, fm_bs, fm_nm, fm_nm, fm_some, fm_Kl, show (0 : Int32) = nI 0 from rfl, fm_or, Nat.or_zero, fmk0 a, nI_1]
  · rintro _ rfl
    unfold f_M_leaf_L80
    try dsimp only
    rw [h.2.1.1.1, if_pos (nI_le (Nat.le_refl _) (by omega)), fm_some, fm_Kr]
    rfl
/-- pulls up to k are there, and can -/
def fl_G (can : Nat → Prop) (it : Nat → Int32) (L : fm_Li) (wd : Nat → Nat) (c k : Nat) : Prop := ∀ j, j < k → fl_S it L wd c j ≠ 0 ∧ can (fl_S it L wd c j)
theorem fl_kn {can : Nat → Prop} {it : Nat → Int32} {L : fm_Li} {wd : Nat → Nat} {c : Nat} (l10 : L.1.length ≤ 10) (c1 : 1 ≤ c) (c3 : c ≤ 3) (l60 : ∀ p, p < L.1.length → fm_lf L wd p ≤ 60) : ∀ k, k ≤ 50 → fl_G can it L wd c k → k + fs_n (fl_R it L wd c k) ≤ L.1.length := by
  have p10 : 2 ^ L.1.length ≤ 1024 := fm_pow8 (n := 10) l10
  intro k
  induction k with
  | zero =>
    intro _ _
    rw [fl_R0]
    unfold fs_n
    rw [fm_su_top (m := L.1.length) 10 l10 (fun i h1 h2 => if_neg (by rw [fm_allbits]; simp; exact h1))]
    have := fm_su_b (g := fun i => if (2 ^ L.1.length - 1).testBit i = true then 1 else 0) (b := 1) L.1.length (fun i _ => by split <;> omega)
    omega
  | succ k ih =>
    intro hk hg
    have h1 := ih (by omega) (fun j hj => hg j (by omega))
    obtain ⟨i1, i2⟩ := fl_RS (it := it) (wd := wd) (k := k) c1 c3 l60 (by omega)
    have h2 := fs_nx i1
    have lt : fl_S it L wd c k < 2 ^ L.1.length := fmk_lt _ _
    have h3 := fs_npos (hg k (by omega)).1 (by omega)
    rw [i2] at h2
    omega
theorem fy_leafL {μ : fw_M} {T : List fm_Ty} {L : fm_Li} {wd : Nat → Nat} {w c s i k : Nat} {it : Nat → Int32} (h : hM μ T L w) (wt : wT2 T) (wl : wL L) (hw : w ≤ 1) (hW : ∀ i, i < 12 → μ.1 4 i = nI (wd i)) (hc : μ.1 5 1 = nI c) (c1 : 1 ≤ c) (c3 : c ≤ 3) (l60 : ∀ p, p < L.1.length → fm_lf L wd p ≤ 60) (hs : s < 4) (hi : i + L.1.length ≤ 24) (hit : ∀ p, p < L.1.length → μ.1 26 (24 * s + i + p) = it p) (hk : rKn k μ) (kb : k + 100 < 2000000000) : fm_T (fw_wh (f_M_leaf_L69 (nI s) (nI i)) fw_N (nI (2 ^ L.1.length - 1), 0, μ)) (fun q => ∃ (m : Nat) (ν : fw_M), fm_F [0, 13] μ ν ∧ (∀ j, j ≠ 21 → ν.1 0 j = μ.1 0 j) ∧ (∃ k2, k2 ≤ k + 11 ∧ rKn k2 ν) ∧ m ≤ L.1.length ∧ fl_G (fp_can T L w) it L wd c m ∧ ((fl_R it L wd c m = 0 ∧ q = .inl (nI m, ν)) ∨ (fl_R it L wd c m ≠ 0 ∧ (fl_S it L wd c m = 0 ∨ ¬ fp_can T L w (fl_S it L wd c m)) ∧ q = .inr (-4, ν)))) := by
  have l10 := wl.1
  have p10 : 2 ^ L.1.length ≤ 1024 := fm_pow8 (n := 10) l10
  refine fm_wh (P := fun x st => ∃ m, m ≤ L.1.length ∧ x = L.1.length - m ∧ st.1 = nI (fl_R it L wd c m) ∧ st.2.1 = nI m ∧ fm_F [0, 13] μ st.2.2 ∧ (∀ j, j ≠ 21 → st.2.2.1 0 j = μ.1 0 j) ∧ rKn (k + m) st.2.2 ∧ fl_G (fp_can T L w) it L wd c m) ?_ (i := L.1.length) ⟨0, Nat.zero_le _, rfl, by rw [fl_R0], rfl, fm_F.rf, fun _ _ => rfl, hk, fun j hj => absurd hj (Nat.not_lt_zero _)⟩ (by omega)
  rintro x ⟨a, b, ν⟩ ⟨m, hm, rfl, e1, e2, F, Z, rk, hg⟩
  simp only at e1 e2 F Z rk
  subst e1 e2
  have hν := h.cong F (Z 0 (by decide)) (Z 6 (by decide)) (Z 8 (by decide))
  have Rlt : fl_R it L wd c m < 2 ^ L.1.length := fmk_lt _ _
  have Slt : fl_S it L wd c m < 2 ^ L.1.length := fmk_lt _ _
  unfold f_M_leaf_L69
  try dsimp only
  by_cases r0 : fl_R it L wd c m = 0
  · rw [r0, if_pos (show nI 0 = 0 from rfl), fm_some, fm_Kr]
    exact ⟨m, ν, F, Z, ⟨k + m, by omega, rk⟩, hm, hg, Or.inl ⟨r0, rfl⟩⟩
  · rw [if_neg (nI_ne0 (by omega) (by omega)), fy_leafS hν wl (by rw [F.at 4]; exact hW) (by rw [F.at 5]; exact hc) c1 c3 l60 (by omega) hs hi (fun p hp => by rw [F.at 26]; exact hit p hp), fm_bs]
    by_cases s0 : fl_S it L wd c m = 0
    · rw [s0, if_pos (show nI 0 = 0 from rfl), fm_some, fm_Kr]
      exact ⟨m, ν, F, Z, ⟨k + m, by omega, rk⟩, hm, hg, Or.inr ⟨r0, Or.inl s0, rfl⟩⟩
    · rw [if_neg (nI_ne0 (by omega) (by omega)), fm_bind]
      refine (fy_canBe (s := fl_S it L wd c m) hν wt wl hw (by omega) rk (by omega)).mono ?_
      rintro ⟨r, ξ⟩ ⟨rfl, G, Z2, rk2⟩
      simp only at G Z2 rk2 ⊢
      have ZZ : ∀ j, j ≠ 21 → ξ.1 0 j = μ.1 0 j := fun j hj => (Z2 j hj).trans (Z j hj)
      by_cases can : fp_can T L w (fl_S it L wd c m)
      · obtain ⟨i1, i2⟩ := fl_RS (it := it) (wd := wd) (k := m) c1 c3 l60 (by omega)
        have hg2 : fl_G (fp_can T L w) it L wd c (m + 1) := fun j hj => by
          by_cases e : j = m
          · rw [e]; exact ⟨s0, can⟩
          · exact hg j (by omega)
        have := fl_kn (it := it) l10 c1 c3 l60 (m + 1) (by omega) hg2
        rw [fB1 can, if_neg fm_n10, fm_nm, fm_nm, fm_some, fm_Kl, fs_andn i1, i2]
        exact ⟨L.1.length - (m + 1), by omega, m + 1, by omega, rfl, rfl, nI_1 m, F.tr G, ZZ, rk2, hg2⟩
      · rw [fB0 can, if_pos rfl, fm_some, fm_Kr]
        exact ⟨m, ξ, F.tr G, ZZ, ⟨k + m + 1, by omega, rk2⟩, hm, hg, Or.inr ⟨r0, Or.inr can, rfl⟩⟩
theorem fx_sortL {μ : fw_M} {L : fm_Li} {wd : Nat → Nat} {c t i : Nat} {it : Nat → Int32} (h86 : 86 ≤ t) (hL : xL 6 μ L) (wl : wL L) (hW : ∀ i, i < 12 → μ.1 8 i = nI (wd i)) (c1 : 1 ≤ c) (c3 : c ≤ 3) (l60 : ∀ p, p < L.1.length → fm_lf L wd p ≤ 60) (hi : i + L.1.length ≤ 24) (hit : ∀ p, p < L.1.length → μ.1 (t + 1) (i + p) = it p) (z84 : ∀ j, j < 10 → μ.1 84 j = 0) : fm_T (fw_wh (f_X_sortByPull_L50 t (nI i) (nI c) (nI L.1.length)) fw_N (0, μ)) (fun q => ∃ ν, fm_F [84] μ ν ∧ ((q = .inl ν ∧ (∀ k, k < 10 → ν.1 84 k = nI (fl_S it L wd c k)) ∧ ∀ p, p < L.1.length → ∃ j, j < L.1.length ∧ fl_at it L wd c j p) ∨ (q = .inr (0, ν) ∧ ¬ ∀ p, p < L.1.length → ∃ j, j < L.1.length ∧ fl_at it L wd c j p))) := by
  have l10 := wl.1
  refine fm_up (P := fun p st => st.1 = nI p ∧ fm_F [84] μ st.2 ∧ (∀ k, k < 10 → st.2.1 84 k = nI (fmk (fl_at it L wd c k) p)) ∧ ∀ q, q < p → ∃ j, j < L.1.length ∧ fl_at it L wd c j q) L.1.length ?_ ?_ 0 (Nat.zero_le _) ⟨rfl, fm_F.rf, fun k hk => z84 k hk, fun q hq => absurd hq (Nat.not_lt_zero _)⟩ (by omega)
  · rintro p ⟨x, ν⟩ hp ⟨e1, F, a1, a2⟩
    simp only at e1 F a1
    subst e1
    have l6 := l60 p hp
    unfold f_X_sortByPull_L50
    try dsimp only
    rw [if_neg (nI_ge hp (by omega)), nI_add, fm_rd (by omega) (by omega), fm_bs, F _ (by simp; omega), hit p hp, fx_left (hL.cong (F.at 6) (F.at 7)) wl (by rw [F.at 8]; exact hW) hp, fm_bs, fm_nm]
    have dv : ((it p).toInt64 - (nI (fm_lf L wd p)).toInt64).toInt = (it p).toInt - fm_lf L wd p := by rw [lg_i2l_sub, nI_toInt (by omega)]
    have no : (¬ ∃ j, j < L.1.length ∧ fl_at it L wd c j p) → fm_T (some (.inr (.inr (0, ν))) : Option ((Int32 × fw_M) ⊕ (fw_M ⊕ (Int32 × fw_M)))) (fm_K (fun st => st.1 = nI (p + 1) ∧ fm_F [84] μ st.2 ∧ (∀ k, k < 10 → st.2.1 84 k = nI (fmk (fl_at it L wd c k) (p + 1))) ∧ ∀ q, q < p + 1 → ∃ j, j < L.1.length ∧ fl_at it L wd c j q) (fun q => ∃ ν, fm_F [84] μ ν ∧ ((q = .inl ν ∧ (∀ k, k < 10 → ν.1 84 k = nI (fl_S it L wd c k)) ∧ ∀ p, p < L.1.length → ∃ j, j < L.1.length ∧ fl_at it L wd c j p) ∨ (q = .inr (0, ν) ∧ ¬ ∀ p, p < L.1.length → ∃ j, j < L.1.length ∧ fl_at it L wd c j p)))) := fun hn => by
      rw [fm_some, fm_Kr]
      exact ⟨ν, F, Or.inr ⟨rfl, fun z => hn (z p hp)⟩⟩
    have bnd : ∀ j, j < L.1.length → j * c ≤ 30 := fun j hj => by
      have : j * c ≤ 10 * 3 := Nat.mul_le_mul (by omega) c3
      omega
    by_cases neg : (it p).toInt64 - (nI (fm_lf L wd p)).toInt64 < 0
    · rw [if_pos ((lg_cmp_lt _ _).mpr neg)]
      refine no (fun ⟨j, j1, j2⟩ => ?_)
      rw [Int64.lt_iff_toInt_lt, dv, show it p = _ from j2, nI_toInt (by have := bnd j j1; omega), show (0 : Int64).toInt = 0 from rfl] at neg
      omega
    · rw [if_neg (fun z => neg ((lg_cmp_lt _ _).mp z))]
      obtain ⟨d, dlt, de⟩ := pk_lOf neg
      have d2 : (d : Int) = (it p).toInt - fm_lf L wd p := by rw [← dv, de, pk_lT dlt]
      have c64 : (nI c).toInt64 = lN c := nI_l (by omega)
      have n64 : (nI L.1.length).toInt64 = lN L.1.length := nI_l (by omega)
      have lr : fw_lr (lN d) (lN c) = some (lN (d % c)) := by
        unfold fw_lr
        rw [if_neg (fun z => by have := (pk_lEQ (a := c) (b := 0) (by omega) (by omega)).mp z; omega), pk_lRem dlt (by omega) (by omega)]
      have ld : fw_ld (lN d) (lN c) = some (lN (d / c)) := by
        unfold fw_ld
        rw [if_neg (fun z => by have := (pk_lEQ (a := c) (b := 0) (by omega) (by omega)).mp z; omega), pk_lDiv dlt (by omega) (by omega)]
      have dle : d / c ≤ d := Nat.div_le_self _ _
      have mlt : d % c < c := Nat.mod_lt _ (by omega)
      have isj : ∀ j, fl_at it L wd c j p → j < L.1.length → d = j * c := fun j j1 j2 => by
        rw [show it p = _ from j1, nI_toInt (by have := bnd j j2; omega)] at d2
        omega
      rw [de, c64, n64, lr, fm_bs, ld, fm_bs]
      by_cases m0 : d % c = 0
      · rw [if_pos ((lg_cmp_eq _ _).mpr (by rw [m0]; rfl))]
        by_cases dl : d / c < L.1.length
        · have i32 : (lN (d / c)).toInt32 = nI (d / c) := by rw [← nI_l (by omega), lg_l2i_i2l]
          have ed : d = d / c * c := by
            have := Nat.div_add_mod d c
            rw [m0, Nat.mul_comm] at this
            omega
          have itv : fl_at it L wd c (d / c) p := by
            unfold fl_at
            have b1 := bnd (d / c) dl
            apply Int32.toInt_inj.mp
            rw [nI_toInt (by omega)]
            omega
          have Fl : fmk (fl_at it L wd c (d / c)) p < 2 ^ p := fmk_lt _ _
          have p10 : 2 ^ p ≤ 1024 := fm_pow8 (n := 10) (by omega)
          rw [if_pos ((lg_cmp_lt _ _).mpr ((pk_lLT (by omega) (by omega)).mpr dl)), fm_bs, i32, fm_rd (by omega) (by omega), fm_bs, a1 _ (by omega), fm_one (by omega), fm_or, fm_si (by omega) (by omega), fm_bs, fm_nm, fm_some, fm_Kl]
          refine ⟨nI_1 p, F.wr, fun k hk => ?_, fun q hq => ?_⟩
          · by_cases e : k = d / c
            · rw [e, fm_wr, if_pos ⟨rfl, rfl⟩, fmk1 itv]
            · rw [fm_wr, if_neg (fun z => e z.2), a1 k hk, fmk0 (fun z => e (fl_un z itv c1 c3 l6 (by omega) (by omega)))]
          · by_cases e : q = p
            · rw [e]; exact ⟨d / c, dl, itv⟩
            · exact a2 q (by omega)
        · rw [if_neg (fun z => dl ((pk_lLT (by omega) (by omega)).mp ((lg_cmp_lt _ _).mp z)))]
          refine no (fun ⟨j, j1, j2⟩ => dl ?_)
          rw [isj j j2 j1, Nat.mul_div_cancel _ (by omega)]
          exact j1
      · rw [if_neg (show ¬ lg_cmp (lN (d % c)) 0 = 0 from fun z => m0 ((pk_lEQ (a := d % c) (b := 0) (by omega) (by omega)).mp ((lg_cmp_eq _ _).mp z)))]
        refine no (fun ⟨j, j1, j2⟩ => m0 ?_)
        rw [isj j j2 j1, Nat.mul_mod_left]
  · rintro ⟨x, ν⟩ ⟨e1, F, a1, a2⟩
    simp only at e1 F a1
    subst e1
    unfold f_X_sortByPull_L50
    try dsimp only
    rw [if_pos (nI_le (Nat.le_refl _) (by omega)), fm_some, fm_Kr]
    exact ⟨ν, F, Or.inl ⟨rfl, a1, a2⟩⟩
theorem fx_leafL {μ : fw_M} {T : List fm_Ty} {L : fm_Li} {wd : Nat → Nat} {w c : Nat} {us : List Nat} {it : Nat → Int32} (h : xP μ T L w us) (hn : xN μ L.1.length us.length) (wl : wL L) (wt : wT T) (hw : w ≤ 1) (c1 : 1 ≤ c) (c3 : c ≤ 3) (l60 : ∀ p, p < L.1.length → fm_lf L wd p ≤ 60) (v84 : ∀ k, k < 10 → μ.1 84 k = nI (fl_S it L wd c k)) : fm_T (fw_wh f_X_pullsOfLeaf_L8 fw_N (0, 0, μ)) (fun q => ∃ (m : Nat) (ν : fw_M), ν.1 = μ.1 ∧ m ≤ 10 ∧ fl_G (fp_can T L w) it L wd c m ∧ (((m = 10 ∨ fl_S it L wd c m = 0) ∧ q = .inl (nI m, nI (fl_R it L wd c 0 ^^^ fl_R it L wd c m), ν)) ∨ (fl_S it L wd c m ≠ 0 ∧ ¬ fp_can T L w (fl_S it L wd c m) ∧ q = .inr (-4, ν)))) := by
  have l10 := wl.1
  have p10 : 2 ^ L.1.length ≤ 1024 := fm_pow8 (n := 10) l10
  have Rin : ∀ m, fs_in (fl_R it L wd c m) (fl_R it L wd c 0) := fun m => fs_of (fun p hp => by
    unfold fl_R at hp ⊢
    rw [fmk_b] at hp ⊢
    exact ⟨hp.1, fun ⟨j, hj, _⟩ => absurd hj (Nat.not_lt_zero _)⟩)
  refine fm_wh (P := fun x st => ∃ m, m ≤ 10 ∧ x = 10 - m ∧ st.1 = nI m ∧ st.2.1 = nI (fl_R it L wd c 0 ^^^ fl_R it L wd c m) ∧ st.2.2.1 = μ.1 ∧ xN st.2.2 L.1.length us.length ∧ fl_G (fp_can T L w) it L wd c m) ?_ (i := 10) ⟨0, Nat.zero_le _, rfl, rfl, by rw [Nat.xor_self]; rfl, rfl, hn, fun j hj => absurd hj (Nat.not_lt_zero _)⟩ (by omega)
  rintro x ⟨a, b, ν⟩ ⟨m, hm, rfl, e1, e2, n1, nN, hg⟩
  simp only at e1 e2 n1 nN
  subst e1 e2
  unfold f_X_pullsOfLeaf_L8
  try dsimp only
  by_cases m10 : m = 10
  · rw [m10, if_pos (show (10 : Int32) ≤ nI 10 by decide), fm_some, fm_Kr]
    exact ⟨10, ν, n1, Nat.le_refl _, m10 ▸ hg, Or.inl ⟨Or.inl rfl, rfl⟩⟩
  · have Slt : fl_S it L wd c m < 2 ^ L.1.length := fmk_lt _ _
    rw [if_neg (fh_nge (c := 10) (b := 10) rfl (by omega) (by omega)), fm_rd (by omega) (by omega), fm_bs, n1, v84 m (by omega)]
    by_cases s0 : fl_S it L wd c m = 0
    · rw [s0, if_pos (show nI 0 = 0 from rfl), fm_some, fm_Kr]
      exact ⟨m, ν, n1, hm, hg, Or.inl ⟨Or.inr s0, rfl⟩⟩
    · have hν : xP ν T L w us := h.cong (fun k _ _ => by rw [n1])
      rw [if_neg (nI_ne0 (by omega) (by omega)), fm_bs, fm_bind]
      refine (fx_inks (s := fl_S it L wd c m) hν nN wl wt hw (by omega)).mono ?_
      rintro ⟨r, ξ⟩ ⟨rfl, x1, x2, _⟩
      simp only at x1 x2 ⊢
      by_cases can : fp_can T L w (fl_S it L wd c m)
      · obtain ⟨i1, i2⟩ := fl_RS (it := it) (wd := wd) (k := m) c1 c3 l60 (by omega)
        have eor : (fl_R it L wd c 0 ^^^ fl_R it L wd c m) ||| fl_S it L wd c m = fl_R it L wd c 0 ^^^ fl_R it L wd c (m + 1) := by
          apply Nat.eq_of_testBit_eq
          intro p
          rw [Nat.testBit_or, fs_xbit (Rin m), fs_xbit (Rin (m + 1)), ← i2, fs_xbit i1]
          cases e1 : (fl_S it L wd c m).testBit p
          · simp
          · have q1 := fs_bit i1 e1
            have q2 := fs_bit (Rin m) q1
            rw [q1, q2]; rfl
        rw [fB1 can, if_neg fm_n10, fm_rd (by omega) (by omega), fm_bs, x1, n1, v84 m (by omega), fm_nm, fm_nm, fm_some, fm_Kl, fm_or, eor]
        exact ⟨10 - (m + 1), by omega, m + 1, by omega, rfl, nI_1 m, rfl, by rw [x1, n1], x2, fun j hj => by
          by_cases e : j = m
          · rw [e]; exact ⟨s0, can⟩
          · exact hg j (by omega)⟩
      · rw [fB0 can, if_pos rfl, fm_some, fm_Kr]
        exact ⟨m, ξ, by rw [x1, n1], hm, hg, Or.inr ⟨s0, can, rfl⟩⟩
theorem fl_SR {it : Nat → Int32} {L : fm_Li} {wd : Nat → Nat} {c k : Nat} (c1 : 1 ≤ c) (c3 : c ≤ 3) (l60 : ∀ p, p < L.1.length → fm_lf L wd p ≤ 60) (hk : k ≤ 50) (h : fl_R it L wd c k = 0) : fl_S it L wd c k = 0 := by
  have := fs_le (fl_RS (it := it) (wd := wd) (k := k) c1 c3 l60 hk).1
  omega
theorem fl_same {can : Nat → Prop} {it : Nat → Int32} {L : fm_Li} {wd : Nat → Nat} {c m k : Nat} (h1 : fl_G can it L wd c m) (h2 : fl_G can it L wd c k) (f1 : fl_S it L wd c m = 0 ∨ ¬ can (fl_S it L wd c m)) (f2 : fl_S it L wd c k = 0 ∨ ¬ can (fl_S it L wd c k)) : m = k := by
  by_cases a : m < k
  · have := h2 m a
    rcases f1 with f | f
    · exact absurd f this.1
    · exact absurd this.2 f
  · by_cases b : k < m
    · have := h1 k b
      rcases f2 with f | f
      · exact absurd f this.1
      · exact absurd this.2 f
    · omega
theorem fo_leaf : fw_O_leaf fm_I := by
  intro n μx μm hn hI a1 a2 a3
  have hI0 := hI
  have hI2 := hI.up
  obtain ⟨⟨C, wc, xs, ms, kp⟩, im, tp, sh, rk⟩ := hI
  have l10 := wc.2.1.1
  have l1 : μx.1 6 1 = nI C.2.1.1.length := xs.2.1.1.1
  have l2 : μm.1 0 6 = nI C.2.1.1.length := ms.2.1.1.1
  have rc := wc.2.2.2.1.2.1
  have rx : μx.1 9 1 = nI (C.2.2.2.1 1) := xs.2.2.2.1 1 (by omega)
  have rm : μm.1 5 1 = nI (C.2.2.2.1 1) := ms.2.2.2.1 1 (by omega)
  have l60 : ∀ p, p < C.2.1.1.length → fm_lf C.2.1 C.2.2.1 p ≤ 60 := fun p hp => by have := fm_lf_le wc.2.1 wc.2.2.1 p (by omega); omega
  unfold f_X_leaf f_M_leaf
  rw [fh_isSheetM, l1, l2]
  by_cases h : 0 ≤ a1 ∧ a1 < 4
  · rw [if_pos h, fm_bs, if_neg fm_n10, fh_isLaneM]
    by_cases g : 0 ≤ a2 ∧ a2 < 3
    · rw [if_pos g, fm_bs, if_neg fm_n10]
      obtain ⟨s, hs, rfl⟩ := fh_cs (n := 4) (by omega) h
      obtain ⟨r, er, em, hr⟩ := fh_ref (k := C.2.1.1.length) (sh s hs) hs a2 a3 g (by omega)
      rw [er, em, fm_bs, fm_bs]
      rcases hr with hr | ⟨rfl, l, z, i, rfl, rfl, hi, hl, hz, q1, x1, y1, x2, y2, it⟩
      · rw [if_neg hr, if_neg hr]
        exact ⟨_, _, _, rfl, rfl, hI2⟩
      · rw [if_pos (show (0 : Int32) ≤ 0 by decide), if_pos (show (0 : Int32) ≤ 0 by decide)]
        by_cases n0 : C.2.1.1.length = 0
        · rw [n0, if_pos (show nI 0 = 0 from rfl), if_pos (show nI 0 = 0 from rfl)]
          exact ⟨_, _, _, rfl, rfl, hI2⟩
        · have p10 : 2 ^ C.2.1.1.length ≤ 1024 := fm_pow8 (n := 10) l10
          have p1 : 1 ≤ 2 ^ C.2.1.1.length := Nat.one_le_two_pow
          rw [if_neg (nI_ne0 (by omega) (by omega)), if_neg (nI_ne0 (by omega) (by omega)), show (fw_rd 3 (μx.1 9) 1) = some (μx.1 9 1) from fm_rd (j := 1) (by omega) (by omega), show (fw_rd 3 (μm.1 5) 1) = some (μm.1 5 1) from fm_rd (j := 1) (by omega) (by omega), fm_bs, fm_bs, rx, rm]
          by_cases c0 : C.2.2.2.1 1 = 0
          · rw [c0, if_pos (show nI 0 = 0 from rfl), if_pos (show nI 0 = 0 from rfl)]
            exact ⟨_, _, _, rfl, rfl, hI2⟩
          · have c1 : 1 ≤ C.2.2.2.1 1 := by omega
            obtain ⟨k, hk, rkn⟩ := rk.n
            have hok := fh_okS s hs
            rw [if_neg (nI_ne0 (by omega) (by omega)), if_neg (nI_ne0 (by omega) (by omega)), fh_rq4 hs, fm_bs, if_pos hok, fm_one (by omega), fm_pred p1, fm_nmE]
            -- the reference
            obtain ⟨q, eq, m, νm, G, Z, ⟨k2, kk, rk2⟩, mn, hg, hq⟩ := fy_leafL (T := C.1) (w := C.2.2.2.1 0) (it := fun p => μm.1 26 (24 * s + i + p)) (fm_hM ms) wc.1.w2 wc.2.1 wc.2.2.2.1.1 ms.2.2.1 rm c1 rc l60 hs (by omega) (fun p _ => rfl) rkn (by omega)
            rw [eq, fm_bs]
            -- the class
            unfold f_X_sortByPull
            rw [if_pos hok, show (fw_rd 3 (μx.1 9) 1) = some (μx.1 9 1) from fm_rd (j := 1) (by omega) (by omega), fm_bs, rx, l1, fm_nmE, if_neg (show ¬ nI (C.2.2.2.1 1) < 1 from fun z => by have := (nI_ltI (b := 1) (by omega) (by omega)).mp z; omega), fx_holds hok x2 hz (by omega) (by omega), if_pos hi, fm_bs, if_neg fm_n10]
            obtain ⟨μ1, e1, F1, f1, z84⟩ := fh_fill (k := 84) (n := 10) (a := 0) (μ := μx) rfl (by omega)
            obtain ⟨qx, ex, μ2, F2, hx⟩ := fx_sortL (μ := μ1) (L := C.2.1) (wd := C.2.2.1) (c := C.2.2.2.1 1) (t := 86 + 2 * s) (i := i) (it := fun p => μm.1 26 (24 * s + i + p)) (by omega) (cL xs.2.1 F1) wc.2.1 (cW xs.2.2.1 F1) c1 rc l60 (by omega) (fun p hp => by rw [F1 _ (by simp; omega), it (i + p) (by omega), Nat.add_assoc]) z84
            have F12 : fm_F [84] μx μ2 := F1.tr F2
            rw [e1, fm_bs, ex, fm_bs]
            rcases hx with ⟨rfl, v84, cov⟩ | ⟨rfl, cov⟩
            · simp only [fm_bs]
              rw [if_neg fm_n10]
              unfold f_X_pullsOfLeaf
              have xs2 : xS 1 μ2 C := xs.cong (F12.rg 1 31) wc.2.2.2.2.1.1
              obtain ⟨ν1, e2, F3, us, hP, hN⟩ := fx_lockLine wc xs2
              obtain ⟨qy, ey, m2, ν2, n1, m10, hg2, hy⟩ := fx_leafL (it := fun p => μm.1 26 (24 * s + i + p)) hP hN wc.2.1 wc.1 wc.2.2.2.1.1 c1 rc l60 (fun k hk => by rw [F3.at 84]; exact v84 k hk)
              have FF : fm_F [65, 66, 67, 68, 84] μx ν2 := fun j hj => by rw [n1]; exact (((F12.up : fm_F [65, 66, 67, 68, 84] μx μ2).tr F3.up) j hj)
              have I3 : fm_I (n + 1) ν2 νm := fm_scr hI0 FF G (fun j _ _ h => Z j h) (rk2.k (by omega))
              rw [e2, fm_bs, ey, fm_bs]
              have stopM : fl_S (fun p => μm.1 26 (24 * s + i + p)) C.2.1 C.2.2.1 (C.2.2.2.1 1) m = 0 ∨ ¬ fp_can C.1 C.2.1 (C.2.2.2.1 0) (fl_S (fun p => μm.1 26 (24 * s + i + p)) C.2.1 C.2.2.1 (C.2.2.2.1 1) m) := by
                rcases hq with ⟨r0, _⟩ | ⟨_, st, _⟩
                · exact Or.inl (fl_SR c1 rc l60 (by omega) r0)
                · exact st
              have r10 : m2 = 10 → fl_R (fun p => μm.1 26 (24 * s + i + p)) C.2.1 C.2.2.1 (C.2.2.2.1 1) m2 = 0 := fun e => by
                have h3 := fl_kn (it := fun p => μm.1 26 (24 * s + i + p)) l10 c1 rc l60 m2 (by omega) hg2
                have lt : fl_R (fun p => μm.1 26 (24 * s + i + p)) C.2.1 C.2.2.1 (C.2.2.2.1 1) m2 < 2 ^ C.2.1.1.length := fmk_lt _ _
                by_cases z : fl_R (fun p => μm.1 26 (24 * s + i + p)) C.2.1 C.2.2.1 (C.2.2.2.1 1) m2 = 0
                · exact z
                · have := fs_npos z (by omega); omega
              rcases hy with ⟨st, rfl⟩ | ⟨st1, st2, rfl⟩
              · have stopX : fl_S (fun p => μm.1 26 (24 * s + i + p)) C.2.1 C.2.2.1 (C.2.2.2.1 1) m2 = 0 := by
                  rcases st with e | e
                  · exact fl_SR c1 rc l60 (by omega) (r10 e)
                  · exact e
                have em2 := fl_same hg hg2 stopM (Or.inl stopX)
                subst em2
                have l6 : ν2.1 6 1 = nI C.2.1.1.length := by rw [FF.at 6]; exact l1
                have lt : fl_R (fun p => μm.1 26 (24 * s + i + p)) C.2.1 C.2.2.1 (C.2.2.2.1 1) m < 2 ^ C.2.1.1.length := fmk_lt _ _
                have xlt : (2 ^ C.2.1.1.length - 1) ^^^ fl_R (fun p => μm.1 26 (24 * s + i + p)) C.2.1 C.2.2.1 (C.2.2.2.1 1) m < 2 ^ C.2.1.1.length := Nat.xor_lt_two_pow (by omega) lt
                simp only [fm_nmE]
                rw [l6, fm_one (by omega), fm_pred p1, fl_R0]
                rcases hq with ⟨r0, rfl⟩ | ⟨r0, _, rfl⟩
                · rw [r0, Nat.xor_zero, if_pos rfl]
                  exact ⟨_, _, _, rfl, rfl, I3⟩
                · rw [if_neg (fun z => r0 (by
                    have z2 := (nI_eq (by omega) (by omega)).mp z
                    apply Nat.eq_of_testBit_eq
                    intro j
                    have z3 : ((2 ^ C.2.1.1.length - 1) ^^^ fl_R (fun p => μm.1 26 (24 * s + i + p)) C.2.1 C.2.2.1 (C.2.2.2.1 1) m).testBit j = (2 ^ C.2.1.1.length - 1).testBit j := by rw [z2]
                    rw [Nat.testBit_xor] at z3
                    rw [Nat.zero_testBit]
                    revert z3
                    cases (2 ^ C.2.1.1.length - 1).testBit j <;> cases (fl_R (fun p => μm.1 26 (24 * s + i + p)) C.2.1 C.2.2.1 (C.2.2.2.1 1) m).testBit j <;> simp))]
                  exact ⟨_, _, _, rfl, rfl, I3⟩
              · have em2 := fl_same hg hg2 stopM (Or.inr st2)
                subst em2
                rcases hq with ⟨r0, rfl⟩ | ⟨r0, _, rfl⟩
                · exact absurd (fl_SR c1 rc l60 (by omega) r0) st1
                · exact ⟨_, _, _, rfl, rfl, I3⟩
            · simp only [fm_bs]
              rw [if_pos trivial]
              have I3 : fm_I (n + 1) μ2 νm := fm_scr hI0 F12 G (fun j _ _ h => Z j h) (rk2.k (by omega))
              rcases hq with ⟨r0, rfl⟩ | ⟨r0, _, rfl⟩
              · exfalso
                apply cov
                intro p hp
                obtain ⟨j, j1, j2⟩ := fl_Rz.mp r0 p hp
                exact ⟨j, by omega, j2⟩
              · exact ⟨_, _, _, rfl, rfl, I3⟩
    · rw [if_neg g, fm_bs, if_pos rfl, fx_refusal0 (Or.inr g), fm_bs, if_neg (show ¬ (0 : Int32) ≤ -1 by decide)]
      exact ⟨_, _, _, rfl, rfl, hI2⟩
  · rw [if_neg h, fm_bs, if_pos rfl, fx_refusal0 (Or.inl h), fm_bs, if_neg (show ¬ (0 : Int32) ≤ -1 by decide)]
    exact ⟨_, _, _, rfl, rfl, hI2⟩
