theorem fx_holds5 {t : Nat} {a b : Int32} {μ : fw_M} (hok : fw_okS t) (h : b < 0) : f_Sheet_holds t a b μ = some 0 := by
  unfold f_Sheet_holds
  rw [if_pos hok]
  by_cases g : a < 0
  · rw [if_pos g]; rfl
  · rw [if_neg g, if_pos h]; rfl
theorem fy_finds0 {s l : Nat} {a b : Int32} {μ : fw_M} (hs : s < 4) (hl : μ.1 24 s = nI l) (l3 : l < 3) (h : a < 0) : f_M_finds (nI s) (nI l) a b μ = some (-13) := by
  unfold f_M_finds
  rw [fm_rd hs (by omega), fm_bs, hl, if_pos (nI_pos' (by omega)), fm_bs, if_pos rfl, if_pos h, fm_bs]
theorem fy_copy1 {s i k : Nat} {μ : fw_M} (hs : s < 4) (hk : i + k ≤ 24) : fm_T (fw_wh (f_M_copy_L101 (nI s) (nI i) (nI k)) fw_N (0, μ)) (fun ν => fm_F [27] μ ν ∧ ∀ q, q < k → ν.1 27 q = μ.1 26 (24 * s + i + q)) := by
  refine fm_up (P := fun c st => st.1 = nI c ∧ fm_F [27] μ st.2 ∧ ∀ q, q < c → st.2.1 27 q = μ.1 26 (24 * s + i + q)) k ?_ ?_ 0 (Nat.zero_le _) ⟨rfl, fm_F.rf, fun q hq => absurd hq (Nat.not_lt_zero _)⟩ (by omega)
  · rintro c ⟨x, ν⟩ hc ⟨h1, h2, h3⟩
    simp only at h1 h2 h3
    subst h1
    unfold f_M_copy_L101
    try dsimp only
    rw [if_neg (nI_ge hc (by omega)), fm_l24, pk_mul, nI_add, nI_add, fm_rd (by omega) (by omega), fm_bs, fm_si (by omega) (by omega), fm_bs, fm_nm, fm_some, fm_Kl, h2.at 26]
    refine ⟨nI_1 c, h2.wr, fun q hq => ?_⟩
    by_cases e : q = c
    · subst e; simp only [fm_wr, and_self, if_true]
    · simp only [fm_wr, e, and_false, if_false]; exact h3 q (by omega)
  · rintro ⟨x, ν⟩ ⟨h1, h2, h3⟩
    simp only at h1 h2 h3
    subst h1
    unfold f_M_copy_L101
    try dsimp only
    rw [if_pos (nI_le (Nat.le_refl _) (by omega)), fm_some, fm_Kr]
    exact ⟨h2, h3⟩
theorem fy_copy2 {t j k : Nat} {μ : fw_M} (ht : t < 4) (hk : j + k ≤ 24) : fm_T (fw_wh (f_M_copy_L138 (nI t) (nI j) (nI k)) fw_N (0, μ)) (fun ν => fm_F [26] μ ν ∧ ∀ p, ν.1 26 p = if 24 * t + j ≤ p ∧ p < 24 * t + j + k then μ.1 27 (p - (24 * t + j)) else μ.1 26 p) := by
  refine fm_up (P := fun c st => st.1 = nI c ∧ fm_F [26] μ st.2 ∧ ∀ p, st.2.1 26 p = if 24 * t + j ≤ p ∧ p < 24 * t + j + c then μ.1 27 (p - (24 * t + j)) else μ.1 26 p) k ?_ ?_ 0 (Nat.zero_le _) ⟨rfl, fm_F.rf, fun q => by rw [if_neg (by omega)]⟩ (by omega)
  · rintro c ⟨x, ν⟩ hc ⟨h1, h2, h3⟩
    simp only at h1 h2 h3
    subst h1
    unfold f_M_copy_L138
    try dsimp only
    rw [if_neg (nI_ge hc (by omega)), fm_rd (by omega) (by omega), fm_bs, fm_l24, pk_mul, nI_add, nI_add, fm_si (by omega) (by omega), fm_bs, fm_nm, fm_some, fm_Kl, h2.at 27]
    refine ⟨nI_1 c, h2.wr, fun p => ?_⟩
    by_cases e : p = 24 * t + j + c
    · subst e
      simp only [fm_wr, and_self, if_true]
      rw [if_pos (by omega), show 24 * t + j + c - (24 * t + j) = c by omega]
    · simp only [fm_wr, e, and_false, if_false, h3 p]
      by_cases q : 24 * t + j ≤ p ∧ p < 24 * t + j + c
      · rw [if_pos q, if_pos (by omega)]
      · rw [if_neg q, if_neg (by omega)]
  · rintro ⟨x, ν⟩ ⟨h1, h2, h3⟩
    simp only at h1 h2 h3
    subst h1
    unfold f_M_copy_L138
    try dsimp only
    rw [if_pos (nI_le (Nat.le_refl _) (by omega)), fm_some, fm_Kr]
    exact ⟨h2, h3⟩
theorem fm_wcn {μ : fw_M} {k : Nat} {f : Nat → Int32} {a : Nat} (h : a ≠ k) : (fw_wc μ k f).1 a = μ.1 a := by rw [fm_wcC, if_neg h]
theorem fm_wcs {μ : fw_M} {k : Nat} {f : Nat → Int32} : (fw_wc μ k f).1 k = f := by rw [fm_wcC, if_pos rfl]
theorem fo_copy : fw_O_copy fm_I := by
  intro n μx μm hn hI a1 a2 a3 a4 a5
  have hI2 := hI.up
  have sh := hI.2.2.2.1
  unfold f_X_copy f_M_copy
  rw [fh_isSheet, fh_isSheetM]
  by_cases h : 0 ≤ a1 ∧ a1 < 4
  · rw [if_pos h, fm_bs, fm_bs, if_neg fm_n10, if_neg fm_n10, fh_isSheet, fh_isSheetM]
    by_cases g : 0 ≤ a3 ∧ a3 < 4
    · rw [if_pos g, fm_bs, fm_bs, if_neg fm_n10, if_neg fm_n10]
      obtain ⟨s, hs, rfl⟩ := fh_cs (n := 4) (by omega) h
      obtain ⟨t, ht, rfl⟩ := fh_cs (n := 4) (by omega) g
      have rd4 : ∀ (f : Nat → Int32), fw_rd 4 f (nI s) = some (f s) := fun f => fm_rd hs (by omega)
      have rd4t : ∀ (f : Nat → Int32), fw_rd 4 f (nI t) = some (f t) := fun f => fm_rd ht (by omega)
      unfold f_X_refusalOfTwo
      have m1 : (-1 : Int32) < 0 := by decide
      have m2 : ¬ (0 : Int32) ≤ -1 := by decide
      have m11 : ¬ (0 : Int32) ≤ -11 := by decide
      have m12 : ¬ (0 : Int32) ≤ -12 := by decide
      have m13 : (-13 : Int32) < 0 := by decide
      have m14 : ¬ (0 : Int32) ≤ -13 := by decide
      have m00 : (0 : Int32) ≤ 0 := by decide
      have m01 : ¬ (0 : Int32) < 0 := by decide
      simp only [fh_rq4 hs, fh_rq4 ht, fm_bs, if_pos (fh_okS s hs), if_pos (fh_okS t ht), rd4, rd4t, fm_nmE]
      rcases sh s hs with ⟨q1, q2⟩ | ⟨q1, l, z, hl, hz, x1, y1, x2, y2, it⟩
      · simp only [q1, q2, m1, m11, fm_bs, if_true, if_false]
        exact ⟨_, _, _, rfl, rfl, hI2⟩
      · have n1 : ¬ nI l < 0 := nI_pos (by omega)
        rcases sh t ht with ⟨p1, p2⟩ | ⟨p1, l2, z2, hl2, hz2, u1, v1, u2, v2, jt⟩
        · simp only [q1, y1, n1, p1, p2, m2, m11, fm_bs, fm_n10, if_true, if_false]
          exact ⟨_, _, _, rfl, rfl, hI2⟩
        · have n2 : 0 ≤ nI l2 := nI_pos' (by omega)
          by_cases el : l = l2
          · subst el
            simp only [q1, y1, n1, p1, v1, x1, u1, n2, m00, fm_bs, fm_n10, if_true, if_false]
            rcases fm_num a5 with k5 | ⟨k, hk, rfl⟩
            · simp only [fx_holds5 (fh_okS s hs) k5, k5, fm_bs, if_true]
              exact ⟨_, _, _, rfl, rfl, hI2⟩
            · have n5 : ¬ nI k < 0 := nI_pos hk
              rcases fm_num a2 with k2 | ⟨i, hi, rfl⟩
              · simp only [fx_holds0 (fh_okS s hs) k2, n5, fm_bs, if_true, if_false, fy_finds0 hs y1 hl k2, m13]
                exact ⟨_, _, _, rfl, rfl, hI2⟩
              · by_cases c1 : i + k ≤ z
                · simp only [fx_holds (fh_okS s hs) x2 hz hi hk, fy_finds hs y1 hl y2 hz hi hk, c1, n5, fm_bs, fm_n10, m01, if_true, if_false]
                  rcases fm_num a4 with k4 | ⟨j, hj, rfl⟩
                  · simp only [fx_holds0 (fh_okS t ht) k4, fm_bs, if_true, if_false, fy_finds0 ht v1 hl k4, m14]
                    exact ⟨_, _, _, rfl, rfl, hI2⟩
                  · by_cases c2 : j + k ≤ z2
                    · obtain ⟨ν1, e1, G1, y⟩ := fy_copy1 (s := s) (i := i) (k := k) (μ := μm) hs (by omega)
                      obtain ⟨ν2, e2, G2, w⟩ := fy_copy2 (t := t) (j := j) (k := k) (μ := ν1) ht (by omega)
                      simp only [fx_holds (fh_okS t ht) u2 hz2 hj hk, fy_finds ht v1 hl v2 hz2 hj hk, c2, fm_bs, fm_n10, m00, if_true, if_false, e1, e2]
                      rw [fm_cp (sp := i) (dp := j) (n := k) (by omega) (by omega) (by omega) (by omega), fm_bs]
                      refine ⟨_, _, _, rfl, rfl, ?_⟩
                      refine fm_shI hI (fun p hp => fm_wcn (by omega)) (fun p hp => ?_) (fun q hq => ?_)
                      · rw [G2 p (by simp; omega), G1 p (by simp; omega)]
                      · have m24 : ν2.1 24 = μm.1 24 := by rw [G2.at 24, G1.at 24]
                        have m25 : ν2.1 25 = μm.1 25 := by rw [G2.at 25, G1.at 25]
                        by_cases e : q = t
                        · subst e
                          right
                          rw [fm_wcn (show 86 + 2 * q ≠ 86 + 2 * q + 1 by omega), fm_wcs, m24, m25]
                          refine ⟨p1, l, z2, hl, hz2, u1, v1, u2, v2, fun p hp => ?_⟩
                          rw [w]
                          by_cases in1 : j ≤ p ∧ p < j + k
                          · rw [pk_cpy_in in1.1 in1.2, if_pos (by omega), y _ (by omega), it _ (by omega), show 24 * s + (i + (p - j)) = 24 * s + i + (24 * q + p - (24 * q + j)) by omega]
                          · rw [pk_cpy_out (by omega), if_neg (by omega), G1.at 26]
                            exact jt p hp
                        · refine (sh q hq).cong2 (fm_wcn (by omega)) (fm_wcn (by omega)) (by rw [m24]) (by rw [m25]) (fun p hp => ?_)
                          rw [w, if_neg (by omega), G1.at 26]
                    · simp only [fx_holds (fh_okS t ht) u2 hz2 hj hk, fy_finds ht v1 hl v2 hz2 hj hk, c2, fm_bs, fm_n10, m14, if_true, if_false]
                      exact ⟨_, _, _, rfl, rfl, hI2⟩
                · simp only [fx_holds (fh_okS s hs) x2 hz hi hk, fy_finds hs y1 hl y2 hz hi hk, c1, n5, fm_bs, fm_n10, m13, if_true, if_false]
                  exact ⟨_, _, _, rfl, rfl, hI2⟩
          · have el2 : ¬ nI l = nI l2 := fun e => el ((nI_eq (by omega) (by omega)).mp e)
            simp only [q1, y1, n1, p1, v1, x1, u1, n2, el2, m12, fm_bs, fm_n10, if_true, if_false]
            exact ⟨_, _, _, rfl, rfl, hI2⟩
    · rw [if_neg g, fm_bs, fm_bs, if_pos rfl, if_pos rfl]
      exact ⟨_, _, _, rfl, rfl, hI2⟩
  · rw [if_neg h, fm_bs, fm_bs, if_pos rfl, if_pos rfl]
    exact ⟨_, _, _, rfl, rfl, hI2⟩
/-! alike -/
def fm_cnt (f g : Nat → Int32) : Nat → Nat
  | 0 => 0
  | i + 1 => fm_cnt f g i + if f i = g i then 1 else 0
theorem fm_cnt_le (f g : Nat → Int32) : ∀ i, fm_cnt f g i ≤ i := by
  intro i
  induction i with
  | zero => exact Nat.le_refl _
  | succ i ih =>
    show fm_cnt f g i + (if f i = g i then 1 else 0) ≤ i + 1
    split <;> omega
theorem fm_cnt_cong {f g f2 g2 : Nat → Int32} : ∀ n, (∀ i, i < n → f i = f2 i) → (∀ i, i < n → g i = g2 i) → fm_cnt f g n = fm_cnt f2 g2 n := by
  intro n
  induction n with
  | zero => intro _ _; rfl
  | succ n ih =>
    intro h1 h2
    show fm_cnt f g n + (if f n = g n then 1 else 0) = fm_cnt f2 g2 n + (if f2 n = g2 n then 1 else 0)
    rw [ih (fun i hi => h1 i (by omega)) (fun i hi => h2 i (by omega)), h1 n (by omega), h2 n (by omega)]
theorem fx_cnt {k r q : Nat} {μ : fw_M} (hk : k ≤ 24) : fw_wh (f_X_alike_L100 (nI k) μ r q) fw_N (0, 0) = some (nI (fm_cnt (μ.1 (r + 1)) (μ.1 (q + 1)) k)) := by
  apply fm_eq
  refine fm_up (P := fun i s => s = (nI (fm_cnt (μ.1 (r + 1)) (μ.1 (q + 1)) i), nI i)) k ?_ ?_ 0 (Nat.zero_le _) rfl (by omega)
  · rintro i _ hi rfl
    unfold f_X_alike_L100
    try dsimp only
    rw [if_neg (nI_ge hi (by omega)), fm_rd (by omega) (by omega), fm_bs, fm_rd (by omega) (by omega), fm_bs]
    show fm_T _ (fm_K (fun s1 => s1 = (nI (fm_cnt (μ.1 (r + 1)) (μ.1 (q + 1)) i + if μ.1 (r + 1) i = μ.1 (q + 1) i then 1 else 0), nI (i + 1))) _)
    by_cases e : μ.1 (r + 1) i = μ.1 (q + 1) i
    · rw [if_pos e, if_pos e, fm_nmE, fm_bs, fm_nm, fm_some, fm_Kl, nI_1, nI_1]
    · rw [if_neg e, if_neg e, fm_bs, fm_nm, fm_some, fm_Kl, nI_1]
      rfl
  · rintro _ rfl
    unfold f_X_alike_L100
    try dsimp only
    rw [if_pos (nI_le (Nat.le_refl _) (by omega)), fm_some, fm_Kr]
theorem fy_cnt {k s t : Nat} {μ : fw_M} (hk : k ≤ 24) (hs : s < 4) (ht : t < 4) : fw_wh (f_M_alike_L107 (nI s) (nI t) (nI k) μ) fw_N (0, 0) = some (nI (fm_cnt (fun i => μ.1 26 (24 * s + i)) (fun i => μ.1 26 (24 * t + i)) k)) := by
  apply fm_eq
  refine fm_up (P := fun i st => st = (nI (fm_cnt (fun i => μ.1 26 (24 * s + i)) (fun i => μ.1 26 (24 * t + i)) i), nI i)) k ?_ ?_ 0 (Nat.zero_le _) rfl (by omega)
  · rintro i _ hi rfl
    unfold f_M_alike_L107
    try dsimp only
    rw [if_neg (nI_ge hi (by omega)), fm_l24, pk_mul, pk_mul, nI_add, nI_add, fm_rd (by omega) (by omega), fm_bs, fm_rd (by omega) (by omega), fm_bs, fm_nm, fm_nm, fm_nm, fm_some, fm_Kl]
    show _ = (nI (fm_cnt (fun i => μ.1 26 (24 * s + i)) (fun i => μ.1 26 (24 * t + i)) i + if μ.1 26 (24 * s + i) = μ.1 26 (24 * t + i) then 1 else 0), nI (i + 1))
    by_cases e : μ.1 26 (24 * s + i) = μ.1 26 (24 * t + i)
    · rw [if_pos e, if_pos e, nI_1, nI_1]
    · rw [if_neg e, if_neg e, nI_1, show (0 : Int32) = nI 0 from rfl, nI_add]
  · rintro _ rfl
    unfold f_M_alike_L107
    try dsimp only
    rw [if_pos (nI_le (Nat.le_refl _) (by omega)), fm_some, fm_Kr]
theorem fm_rm2 {a b : Nat} (ha : a < 2147483648) (h0 : 0 < b) (hb : b < 2147483648) : fw_rm2 (nI a) (nI b) = some (nI (a % b)) := by
  unfold fw_rm2
  rw [if_neg (nI_ne0 h0 hb), pk_rem ha h0 hb]
theorem fm_dv {a b : Nat} (ha : a < 2147483648) (h0 : 0 < b) (hb : b < 2147483648) : fw_dv (nI a) (nI b) = some (nI (a / b)) := by
  unfold fw_dv
  rw [if_neg (nI_ne0 h0 hb), pk_div ha h0 hb]
theorem fy_gcd {a b : Nat} (ha : a < 1000) (hb : b < 1000) : fw_wh f_M_alike_L163 fw_N (nI a, nI b) = some (nI (Nat.gcd a b)) := by
  apply fm_eq
  refine fm_wh (P := fun i s => ∃ c, c < 1000 ∧ i < 1000 ∧ s = (nI c, nI i) ∧ Nat.gcd c i = Nat.gcd a b) ?_ (i := b) ⟨a, ha, hb, rfl, rfl⟩ (by omega)
  rintro i _ ⟨c, hc, hi, rfl, hg⟩
  unfold f_M_alike_L163
  try dsimp only
  by_cases h : i = 0
  · subst h
    rw [if_pos (show nI 0 ≤ 0 by decide), fm_some, fm_Kr, ← hg, Nat.gcd_zero_right]
  · rw [if_neg (nI_nle (by omega) (by omega)), fm_rm2 (by omega) (by omega) (by omega), fm_bs, fm_some, fm_Kl]
    have hlt : c % i < i := Nat.mod_lt _ (by omega)
    refine ⟨c % i, hlt, i, hi, by omega, rfl, ?_⟩
    rw [← hg, Nat.gcd_comm i, ← Nat.gcd_rec, Nat.gcd_comm]
theorem fx_gcd {a n : Nat} (ha : a ≤ n) (h1 : 1 ≤ n) (hn : n < 1000) : f_X_commonDivisor (nI a) (nI n) = some (nI (Nat.gcd a n)) := by
  apply fm_eq
  unfold f_X_commonDivisor
  have gp : 0 < Nat.gcd a n := Nat.gcd_pos_of_pos_right _ (by omega)
  have gl : Nat.gcd a n ≤ n := Nat.gcd_le_right _ (by omega)
  rw [fm_bind]
  refine fm_wh (P := fun i s => s = nI i ∧ 1 ≤ i ∧ i ≤ n ∧ Nat.gcd a n ≤ i) ?_ (i := n) ⟨rfl, h1, Nat.le_refl _, gl⟩ (by omega)
  rintro i _ ⟨rfl, hi1, hin, hg⟩
  unfold f_X_commonDivisor_L2
  try dsimp only
  by_cases h : i = 1
  · subst h
    rw [if_pos (show nI 1 ≤ 1 by decide), fm_some, fm_Kr, fm_some]
    rw [show Nat.gcd a n = 1 by omega]
    rfl
  · rw [if_neg (show ¬ nI i ≤ 1 from fun e => by have := (nI_leI (b := 1) (show i < 2147483648 by omega) (by omega)).mp e; omega), fm_rm2 (by omega) (by omega) (by omega), fm_bs]
    have nx : ¬ (a % i = 0 ∧ n % i = 0) → Nat.gcd a n ≤ i - 1 := by
      intro hd
      by_cases e : Nat.gcd a n = i
      · exact absurd ⟨Nat.mod_eq_zero_of_dvd (e ▸ Nat.gcd_dvd_left a n), Nat.mod_eq_zero_of_dvd (e ▸ Nat.gcd_dvd_right a n)⟩ hd
      · omega
    have stp : ∀ (hd : ¬ (a % i = 0 ∧ n % i = 0)), fm_T (fw_nm (nI i + (-1)) fun (v21 : Int32) => (some (.inl v21) : Option (Int32 ⊕ (Unit ⊕ Int32)))) (fm_K (fun s1 => ∃ j, j < i ∧ s1 = nI j ∧ 1 ≤ j ∧ j ≤ n ∧ Nat.gcd a n ≤ j) (fun a_1 => fm_T (match a_1 with | .inl e2x => some 1 | .inr r2 => some r2) fun r => r = nI (Nat.gcd a n))) := by
      intro hd
      rw [fm_nm, fm_some, fm_Kl]
      exact ⟨i - 1, by omega, by obtain ⟨k, rfl⟩ : ∃ k, i = k + 1 := ⟨i - 1, by omega⟩
                                 rw [pk_m1]; rfl, by omega, by omega, nx hd⟩
    by_cases e1 : a % i = 0
    · rw [if_pos (by rw [e1]; rfl), fm_rm2 (by omega) (by omega) (by omega), fm_bs]
      by_cases e2 : n % i = 0
      · rw [if_pos (by rw [e2]; rfl), fm_some, fm_Kr, fm_some]
        have : i ∣ Nat.gcd a n := Nat.dvd_gcd (Nat.dvd_of_mod_eq_zero e1) (Nat.dvd_of_mod_eq_zero e2)
        have := Nat.le_of_dvd gp this
        rw [show Nat.gcd a n = i by omega]
      · have hm : n % i < i := Nat.mod_lt _ (by omega)
        rw [if_neg (nI_ne0 (by omega) (by omega))]
        exact stp (fun q => e2 q.2)
    · have hm : a % i < i := Nat.mod_lt _ (by omega)
      rw [if_neg (nI_ne0 (by omega) (by omega))]
      exact stp (fun q => e1 q.1)
theorem fo_alike : fw_O_alike fm_I := by
  intro n μx μm hn hI a1 a2 a3 a4
  have hI2 := hI.up
  have sh := hI.2.2.2.1
  unfold f_X_alike f_M_alike
  rw [fh_isSheet, fh_isSheetM]
  by_cases h : 0 ≤ a1 ∧ a1 < 4
  · rw [if_pos h, fm_bs, fm_bs, if_neg fm_n10, if_neg fm_n10, fh_isSheet, fh_isSheetM]
    by_cases g : 0 ≤ a2 ∧ a2 < 4
    · rw [if_pos g, fm_bs, fm_bs, if_neg fm_n10, if_neg fm_n10, fh_in (a := a3) (b := 1) (c := 24) (lo := 1) (hi := 24) rfl rfl, fh_in (a := a4) (b := 0) (c := 1) (lo := 0) (hi := 1) rfl rfl]
      by_cases h3 : 1 ≤ a3 ∧ a3 ≤ 24
      · rw [fh_s1 h3, if_pos h3, fm_bs, if_neg fm_n10]
        by_cases h4 : 0 ≤ a4 ∧ a4 ≤ 1
        · rw [fh_r1 h4, if_pos h4, fm_bs, if_neg fm_n10]
          obtain ⟨s, hs, rfl⟩ := fh_cs (n := 4) (by omega) h
          obtain ⟨t, ht, rfl⟩ := fh_cs (n := 4) (by omega) g
          obtain ⟨k, hk1, hk2, rfl⟩ := fh_cl (l := 1) (n := 24) rfl rfl (by omega) (by omega) h3
          have rd4 : ∀ (f : Nat → Int32), fw_rd 4 f (nI s) = some (f s) := fun f => fm_rd hs (by omega)
          have rd4t : ∀ (f : Nat → Int32), fw_rd 4 f (nI t) = some (f t) := fun f => fm_rd ht (by omega)
          unfold f_X_refusalOfTwo
          have m1 : (-1 : Int32) < 0 := by decide
          have m2 : ¬ (0 : Int32) ≤ -1 := by decide
          have m11 : ¬ (0 : Int32) ≤ -11 := by decide
          have m12 : ¬ (0 : Int32) ≤ -12 := by decide
          have m00 : (0 : Int32) ≤ 0 := by decide
          simp only [fh_rq4 hs, fh_rq4 ht, fm_bs, if_pos (fh_okS s hs), if_pos (fh_okS t ht), rd4, rd4t, fm_nmE]
          rcases sh s hs with ⟨q1, q2⟩ | ⟨q1, l, z, hl, hz, x1, y1, x2, y2, it⟩
          · simp only [q1, q2, m1, m11, fm_bs, if_true, if_false]
            exact ⟨_, rfl, rfl, hI2⟩
          · have n1 : ¬ nI l < 0 := nI_pos (by omega)
            rcases sh t ht with ⟨p1, p2⟩ | ⟨p1, l2, z2, hl2, hz2, u1, v1, u2, v2, jt⟩
            · simp only [q1, y1, n1, p1, p2, m2, m11, fm_bs, fm_n10, if_true, if_false]
              exact ⟨_, rfl, rfl, hI2⟩
            · have n2 : 0 ≤ nI l2 := nI_pos' (by omega)
              by_cases el : l = l2
              · subst el
                simp only [q1, y1, n1, p1, v1, x1, u1, n2, m00, fm_bs, fm_n10, if_true, if_false, y2, v2]
                rw [show (0 : Int32) = nI 0 from rfl, fx_holds (fh_okS s hs) x2 hz (by omega) (by omega), fm_bs]
                by_cases c1 : 0 + k ≤ z
                · rw [if_pos c1, if_neg (show ¬ (1 : Int32) = nI 0 by decide), fx_holds (fh_okS t ht) u2 hz2 (by omega) (by omega), fm_bs, if_neg (nI_nlt (show k ≤ z by omega) (by omega))]
                  by_cases c2 : 0 + k ≤ z2
                  · rw [if_pos c2, if_neg (show ¬ (1 : Int32) = nI 0 by decide), if_pos (nI_le (show k ≤ z2 by omega) (by omega))]
                    have ec : fm_cnt (μx.1 (86 + 2 * s + 1)) (μx.1 (86 + 2 * t + 1)) k = fm_cnt (fun i => μm.1 26 (24 * s + i)) (fun i => μm.1 26 (24 * t + i)) k := fm_cnt_cong k (fun i hi => it i (by omega)) (fun i hi => jt i (by omega))
                    have hc := fm_cnt_le (fun i => μm.1 26 (24 * s + i)) (fun i => μm.1 26 (24 * t + i)) k
                    rw [show (nI 0, nI 0) = ((0 : Int32), (0 : Int32)) from rfl, fx_cnt hk2, fy_cnt hk2 hs ht, ec, fm_bs, fm_bs, fx_gcd hc hk1 (by omega), fy_gcd (by omega) (by omega), fm_bs, fm_bs]
                    have gp : 0 < Nat.gcd (fm_cnt (fun i => μm.1 26 (24 * s + i)) (fun i => μm.1 26 (24 * t + i)) k) k := Nat.gcd_pos_of_pos_right _ (by omega)
                    have gl : Nat.gcd (fm_cnt (fun i => μm.1 26 (24 * s + i)) (fun i => μm.1 26 (24 * t + i)) k) k ≤ k := Nat.gcd_le_right _ (by omega)
                    by_cases e4 : a4 = nI 0
                    · rw [if_pos e4, if_pos e4, fm_dv (by omega) gp (by omega), fm_bs]
                      exact ⟨_, rfl, rfl, hI2⟩
                    · rw [if_neg e4, if_neg e4, fm_dv (by omega) gp (by omega), fm_bs]
                      exact ⟨_, rfl, rfl, hI2⟩
                  · rw [if_neg c2, if_pos (show (0 : Int32) = nI 0 from rfl), if_neg (nI_ge (show z2 < k by omega) (by omega))]
                    exact ⟨_, rfl, rfl, hI2⟩
                · rw [if_neg c1, if_pos (show (0 : Int32) = nI 0 from rfl), if_pos (nI_lt (show z < k by omega) (by omega))]
                  exact ⟨_, rfl, rfl, hI2⟩
              · have el2 : ¬ nI l = nI l2 := fun e => el ((nI_eq (by omega) (by omega)).mp e)
                simp only [q1, y1, n1, p1, v1, x1, u1, n2, el2, m12, fm_bs, fm_n10, if_true, if_false]
                exact ⟨_, rfl, rfl, hI2⟩
        · rw [fh_r0 h4, if_neg h4, fm_bs, if_pos rfl]
          exact ⟨_, rfl, rfl, hI2⟩
      · rw [fh_s0 h3, if_neg h3, fm_bs, if_pos rfl]
        exact ⟨_, rfl, rfl, hI2⟩
    · rw [if_neg g, fm_bs, fm_bs, if_pos rfl, if_pos rfl]
      exact ⟨_, rfl, rfl, hI2⟩
  · rw [if_neg h, fm_bs, fm_bs, if_pos rfl, if_pos rfl]
    exact ⟨_, rfl, rfl, hI2⟩
