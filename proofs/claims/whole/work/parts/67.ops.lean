/-! lose -/
def fm_sh (j i : Nat) : Nat := if i < j then i else i + 1
theorem fx_remove {j m : Nat} {μ : fw_M} (hs : μ.1 2 3 = nI (m + 1)) (hj : j ≤ m) (hm : m ≤ 9) : fm_T (f_Case_remove_2 (nI j) μ) (fun ν => fm_F [2, 3, 4, 5] μ ν ∧ ν.1 2 3 = nI m ∧ (∀ c, c = 3 ∨ c = 4 ∨ c = 5 → ∀ i, i < m → ν.1 c i = μ.1 c (fm_sh j i))) := by
  unfold f_Case_remove_2
  rw [fh_has, hs, if_pos (fh_csI (by omega) (by omega)), fm_bs, if_neg fm_n10, fm_bind, fm_bind]
  refine fm_up (P := fun i s => s.1 = nI i ∧ j ≤ i ∧ fm_F [3, 4, 5] μ s.2 ∧ (∀ c, c = 3 ∨ c = 4 ∨ c = 5 → ∀ k, s.2.1 c k = if j ≤ k ∧ k < i then μ.1 c (k + 1) else μ.1 c k)) m ?_ ?_ j hj ⟨rfl, Nat.le_refl _, fm_F.rf, fun c _ k => by rw [if_neg (by omega)]⟩ (by omega)
  · rintro i ⟨x, ν⟩ hi ⟨h1, hji, h2, h3⟩
    simp only at h1 h2 h3
    subst h1
    have hs2 : ν.1 2 3 = nI (m + 1) := by rw [h2.at 2]; exact hs
    have r3 := h3 3 (Or.inl rfl) (i + 1)
    have r4 := h3 4 (Or.inr (Or.inl rfl)) (i + 1)
    have r5 := h3 5 (Or.inr (Or.inr rfl)) (i + 1)
    rw [if_neg (by omega)] at r3 r4 r5
    have rd : ∀ f : Nat → Int32, fw_rd 10 f (nI (i + 1)) = some (f (i + 1)) := fun f => fm_rd (by omega) (by omega)
    have s : ∀ (ν : fw_M) (k : Nat) (v : Int32), fw_si 10 ν k (nI i) v = some (fw_wr ν k i v) := fun ν k v => fm_si (by omega) (by omega)
    unfold f_Case_remove_2_L10
    try dsimp only
    simp only [hs2, nI_pred, nI_ge hi (show m < 2147483648 by omega), nI_1, rd, s, fm_bs, fm_nmE, fm_n10, if_true, if_false, fm_wr, Nat.reduceEqDiff, false_and, and_false, true_and, and_true, and_self, reduceIte, r3, r4, r5]
    rw [fm_some, fm_Kl]
    refine ⟨rfl, by omega, ((h2.wr).wr).wr, ?_⟩
    intro c hc k
    by_cases e : k = i
    · subst e
      rw [if_pos (by omega)]
      rcases hc with rfl | rfl | rfl <;> simp only [fm_bs, fm_nmE, fm_n10, if_true, if_false, fm_wr, Nat.reduceEqDiff, false_and, and_false, true_and, and_true, and_self, reduceIte]
    · have e2 : (if j ≤ k ∧ k < i + 1 then μ.1 c (k + 1) else μ.1 c k) = if j ≤ k ∧ k < i then μ.1 c (k + 1) else μ.1 c k := by
        by_cases q : j ≤ k ∧ k < i
        · rw [if_pos q, if_pos (by omega)]
        · rw [if_neg q, if_neg (by omega)]
      rw [e2, ← h3 c hc k]
      rcases hc with rfl | rfl | rfl <;> simp only [fm_bs, fm_nmE, fm_n10, if_true, if_false, fm_wr, Nat.reduceEqDiff, false_and, and_false, true_and, and_true, and_self, reduceIte, e]
  · rintro ⟨x, ν⟩ ⟨h1, hji, h2, h3⟩
    simp only at h1 h2 h3
    subst h1
    have hs2 : ν.1 2 3 = nI (m + 1) := by rw [h2.at 2]; exact hs
    unfold f_Case_remove_2_L10
    try dsimp only
    simp only [hs2, nI_pred]
    rw [if_pos (nI_le (Nat.le_refl _) (by omega)), fm_some, fm_Kr, fm_nm, fm_some, fm_some, hs2, nI_pred]
    refine ⟨(h2.up).wr, by simp only [fm_bs, fm_nmE, fm_n10, if_true, if_false, fm_wr, Nat.reduceEqDiff, false_and, and_false, true_and, and_true, and_self, reduceIte], ?_⟩
    intro c hc i hi
    have e : (fw_wr ν 2 3 (nI m)).1 c i = ν.1 c i := by rcases hc with rfl | rfl | rfl <;> simp only [fm_bs, fm_nmE, fm_n10, if_true, if_false, fm_wr, Nat.reduceEqDiff, false_and, and_false, true_and, and_true, and_self, reduceIte]
    rw [e, h3 c hc i]
    unfold fm_sh
    by_cases q : i < j
    · rw [if_neg (by omega), if_pos q]
    · rw [if_pos (by omega), if_neg q]
theorem fy_comes {i : Nat} {μ : fw_M} {a b c : Int32} (hi : i < 10) : f_M_comes (nI i) a b c μ = some (fw_wr (fw_wr (fw_wr μ 1 i a) 2 i b) 3 i c) := by
  unfold f_M_comes
  rw [fm_si hi (by omega), fm_bs, fm_si hi (by omega), fm_bs, fm_si hi (by omega), fm_bs]
theorem fy_goes {j m : Nat} {μ : fw_M} (hs : μ.1 0 0 = nI (m + 1)) (hj : j ≤ m) (hm : m ≤ 9) : fm_T (f_M_goes (nI j) μ) (fun ν => fm_F [0, 1, 2, 3] μ ν ∧ ν.1 0 0 = nI m ∧ (∀ f, f ≠ 0 → ν.1 0 f = μ.1 0 f) ∧ (∀ c, c = 1 ∨ c = 2 ∨ c = 3 → ∀ i, i < m → ν.1 c i = μ.1 c (fm_sh j i))) := by
  unfold f_M_goes
  rw [fm_nm, hs, nI_pred, fm_bind]
  refine fm_up (P := fun i s => s.1 = nI i ∧ j ≤ i ∧ fm_F [0, 1, 2, 3] μ s.2 ∧ s.2.1 0 0 = nI m ∧ (∀ f, f ≠ 0 → s.2.1 0 f = μ.1 0 f) ∧ (∀ c, c = 1 ∨ c = 2 ∨ c = 3 → ∀ k, s.2.1 c k = if j ≤ k ∧ k < i then μ.1 c (k + 1) else μ.1 c k)) m ?_ ?_ j hj ⟨rfl, Nat.le_refl _, fm_F.rf.wr, by simp only [fm_bs, fm_nmE, fm_n10, if_true, if_false, fm_wr, Nat.reduceEqDiff, false_and, and_false, true_and, and_true, and_self, reduceIte], fun f hf => by simp only [fm_bs, fm_nmE, fm_n10, if_true, if_false, fm_wr, Nat.reduceEqDiff, false_and, and_false, true_and, and_true, and_self, reduceIte, hf], fun c hc k => by
    rw [if_neg (by omega)]
    rcases hc with rfl | rfl | rfl <;> simp only [fm_bs, fm_nmE, fm_n10, if_true, if_false, fm_wr, Nat.reduceEqDiff, false_and, and_false, true_and, and_true, and_self, reduceIte]⟩ (by omega)
  · rintro i ⟨x, ν⟩ hi ⟨h1, hji, h2, h0, h4, h3⟩
    simp only at h1 h2 h3 h0 h4
    subst h1
    have r1 := h3 1 (Or.inl rfl) (i + 1)
    have r2 := h3 2 (Or.inr (Or.inl rfl)) (i + 1)
    have r3 := h3 3 (Or.inr (Or.inr rfl)) (i + 1)
    rw [if_neg (by omega)] at r1 r2 r3
    unfold f_M_goes_L12
    try dsimp only
    rw [if_neg (by rw [h0]; exact nI_ge hi (by omega)), nI_1, fm_rd (by omega) (by omega), fm_bs, fm_rd (by omega) (by omega), fm_bs, fm_rd (by omega) (by omega), fm_bs, fy_comes (by omega), fm_bs, r1, r2, r3, fm_nm, fm_some, fm_Kl]
    refine ⟨rfl, by omega, ((h2.wr).wr).wr, by simp only [fm_bs, fm_nmE, fm_n10, if_true, if_false, fm_wr, Nat.reduceEqDiff, false_and, and_false, true_and, and_true, and_self, reduceIte, h0], fun f hf => by simp only [fm_bs, fm_nmE, fm_n10, if_true, if_false, fm_wr, Nat.reduceEqDiff, false_and, and_false, true_and, and_true, and_self, reduceIte, h4 f hf], ?_⟩
    intro c hc k
    by_cases e : k = i
    · subst e
      rw [if_pos (by omega)]
      rcases hc with rfl | rfl | rfl <;> simp only [fm_bs, fm_nmE, fm_n10, if_true, if_false, fm_wr, Nat.reduceEqDiff, false_and, and_false, true_and, and_true, and_self, reduceIte]
    · have e2 : (if j ≤ k ∧ k < i + 1 then μ.1 c (k + 1) else μ.1 c k) = if j ≤ k ∧ k < i then μ.1 c (k + 1) else μ.1 c k := by
        by_cases q : j ≤ k ∧ k < i
        · rw [if_pos q, if_pos (by omega)]
        · rw [if_neg q, if_neg (by omega)]
      rw [e2, ← h3 c hc k]
      rcases hc with rfl | rfl | rfl <;> simp only [fm_bs, fm_nmE, fm_n10, if_true, if_false, fm_wr, Nat.reduceEqDiff, false_and, and_false, true_and, and_true, and_self, reduceIte, e]
  · rintro ⟨x, ν⟩ ⟨h1, hji, h2, h0, h4, h3⟩
    simp only at h1 h2 h3 h0 h4
    subst h1
    unfold f_M_goes_L12
    try dsimp only
    rw [if_pos (by rw [h0]; exact nI_le (Nat.le_refl _) (by omega)), fm_some, fm_Kr, fm_some]
    refine ⟨h2, h0, h4, ?_⟩
    intro c hc i hi
    rw [h3 c hc i]
    unfold fm_sh
    by_cases q : i < j
    · rw [if_neg (by omega), if_pos q]
    · rw [if_pos (by omega), if_neg q]
theorem fm_tt_er {T : List fm_Ty} {j i : Nat} : fm_tt (T.eraseIdx j) i = fm_tt T (fm_sh j i) := by
  unfold fm_tt fm_sh
  rw [List.getD_eq_getElem?_getD, List.getD_eq_getElem?_getD, List.getElem?_eraseIdx]
  by_cases h : i < j
  · rw [if_pos h, if_pos h]
  · rw [if_neg h, if_neg h]
theorem fm_len_er {α : Type} {T : List α} {j m : Nat} (h : T.length = m + 1) (hj : j ≤ m) : (T.eraseIdx j).length = m := by
  rw [List.length_eraseIdx_of_lt (by omega)]; omega
theorem rT.del {sz : Int32} {k l m k2 l2 m2 : Nat → Int32} {T : List fm_Ty} {j z : Nat} (h : rT sz k l m T) (hT : T.length = z + 1) (hj : j ≤ z) (hk : ∀ i, i < z → k2 i = k (fm_sh j i)) (hl : ∀ i, i < z → l2 i = l (fm_sh j i)) (hm : ∀ i, i < z → m2 i = m (fm_sh j i)) : rT (nI z) k2 l2 m2 (T.eraseIdx j) := by
  refine ⟨by rw [fm_len_er hT hj], fun i hi => ?_⟩
  rw [fm_len_er hT hj] at hi
  rw [fm_tt_er, hk i hi, hl i hi, hm i hi]
  exact h.2 _ (by unfold fm_sh; split <;> omega)
theorem wT.del {T : List fm_Ty} {j z : Nat} (h : wT T) (hT : T.length = z + 1) (hj : j ≤ z) : wT (T.eraseIdx j) := by
  have h1 := h.1
  refine ⟨by rw [fm_len_er hT hj]; omega, fun i hi => ?_⟩
  rw [fm_len_er hT hj] at hi
  rw [fm_tt_er]
  exact h.2 _ (by unfold fm_sh; split <;> omega)
theorem fo_lose : fw_O_lose fm_I := by
  intro n μx μm hn hI a1
  have hI2 := hI.up
  obtain ⟨⟨C, wc, xs, ms, kp⟩, im, tp, sh, rk⟩ := hI
  have hsx : μx.1 2 3 = nI C.1.length := xs.1.1
  have hsm : μm.1 0 0 = nI C.1.length := ms.1.1
  have hl := wc.1.1
  unfold f_X_lose f_M_lose
  rw [fh_has, fh_isOne hsm (by omega), hsx]
  by_cases h : 0 ≤ a1 ∧ a1 < nI C.1.length
  · obtain ⟨j, hj, rfl⟩ := fh_cs (by omega) h
    obtain ⟨z, hz⟩ : ∃ z, C.1.length = z + 1 := ⟨C.1.length - 1, by omega⟩
    rw [if_pos h, fm_bs, fm_bs, if_neg fm_n10, if_neg fm_n10]
    obtain ⟨ν, e1, F1, s1, q1⟩ := fx_remove (j := j) (m := z) (μ := μx) (by rw [hsx, hz]) (by omega) (by omega)
    obtain ⟨νm, e2, G, s2, Z, q2⟩ := fy_goes (j := j) (m := z) (μ := μm) (by rw [hsm, hz]) (by omega) (by omega)
    obtain ⟨ν2, e3, F2, zz⟩ := fh_forget (μ := ν)
    rw [e1, fm_bs, e2, fm_bs, e3, fm_bs, s2, F2.at 2, s1]
    have F : fm_F [2, 3, 4, 5, 81] μx ν2 := (F1.up : fm_F [2, 3, 4, 5, 81] μx ν).tr F2.up
    refine ⟨_, _, _, rfl, rfl, ?_⟩
    refine fm_mk (C := (C.1.eraseIdx j, C.2)) ⟨wc.1.del hz (by omega), wc.2⟩ ⟨?_, cL xs.2.1 F, cW xs.2.2.1 F, cR xs.2.2.2.1 F, cX xs.2.2.2.2.1 F wc.2.2.2.2.1.1 F.c1, cJ xs.2.2.2.2.2 F⟩ ⟨?_, dL ms.2.1 G (Z 6 (by decide)) (Z 8 (by decide)), dW ms.2.2.1 G, dR ms.2.2.2.1 G, dX ms.2.2.2.2.1 G (Z 9 (by decide)), dJ ms.2.2.2.2.2 G (Z 11 (by decide))⟩ (fm_kept.none zz wc.2.2.2.2.1.1) im tp sh (rk.st G (Z 21 (by decide))) F G (Z 15 (by decide)) (Z 32 (by decide))
    · show rT (ν2.1 2 3) (ν2.1 3) (ν2.1 4) (ν2.1 5) (C.1.eraseIdx j)
      rw [F2.at 2, F2.at 3, F2.at 4, F2.at 5, s1]
      exact rT.del xs.1 hz (by omega) (q1 3 (by decide)) (q1 4 (by decide)) (q1 5 (by decide))
    · rw [s2]
      exact rT.del ms.1 hz (by omega) (q2 1 (by decide)) (q2 2 (by decide)) (q2 3 (by decide))
  · rw [if_neg h]
    exact ⟨_, _, _, rfl, rfl, hI2⟩
/-! type -/
def fb_w (w : Int64) (i : Nat) : Nat := (w >>> (Int32.toInt64 (8 * nI i) &&& 63)).toBitVec.toNat % 256
theorem fb_and (x : Int64) : (x &&& 255) = lN (x.toBitVec.toNat % 256) := by
  apply Int64.toBitVec_inj.mp
  show x.toBitVec &&& (255 : Int64).toBitVec = BitVec.ofNat 64 (x.toBitVec.toNat % 256)
  apply BitVec.eq_of_toNat_eq
  have e : (255 : Int64).toBitVec.toNat = 2 ^ 8 - 1 := by decide
  rw [BitVec.toNat_and, e, Nat.and_two_pow_sub_one_eq_mod, BitVec.toNat_ofNat]
  omega
theorem fb_lt (w : Int64) (i : Nat) : fb_w w i < 256 := Nat.mod_lt _ (by omega)
theorem fb_x (w : Int64) (i : Nat) : (w >>> (Int32.toInt64 (8 * nI i) &&& 63)) &&& 255 = (nI (fb_w w i)).toInt64 := by
  rw [fb_and, nI_l (by have := fb_lt w i; omega)]
  rfl
theorem fb_byte (w : Int64) (i : Nat) : f_Tape_byteOf w (nI i) = some (nI (fb_w w i)) := by
  unfold f_Tape_byteOf
  rw [fb_x, lg_l2i_i2l]
def fb_ok (w : Int64) (i : Nat) : Prop := 32 ≤ fb_w w i ∧ fb_w w i ≤ 126
theorem fx_takes {w : Int64} {n : Nat} (hn : n < 100) : fm_T (f_Tape_takes w (nI n)) (fun r => (r = 1 ∧ ∀ i, i < n → fb_ok w i) ∨ (r = 0 ∧ ¬ ∀ i, i < n → fb_ok w i)) := by
  unfold f_Tape_takes
  rw [fm_bind]
  refine fm_up (P := fun i s => s = nI i ∧ ∀ k, k < i → fb_ok w k) n ?_ ?_ 0 (Nat.zero_le _) ⟨rfl, fun k hk => absurd hk (Nat.not_lt_zero _)⟩ (by omega)
  · rintro i _ hi ⟨rfl, h⟩
    have hb := fb_lt w i
    unfold f_Tape_takes_L2
    try dsimp only
    rw [if_neg (nI_ge hi (by omega)), fb_byte, fm_bs]
    by_cases g : fb_ok w i
    · rw [fh_r1 (lo := 32) (hi := 126) ⟨(nI_leI (a := 32) (by omega) (by omega)).mpr g.1, (nI_leI (b := 126) (by omega) (by omega)).mpr g.2⟩, fm_nm, fm_some, fm_Kl]
      refine ⟨nI_1 i, fun k hk => ?_⟩
      by_cases e : k = i
      · subst e; exact g
      · exact h k (by omega)
    · rw [fh_r0 (lo := 32) (hi := 126) (fun q => g ⟨(nI_leI (a := 32) (by omega) (by omega)).mp q.1, (nI_leI (b := 126) (by omega) (by omega)).mp q.2⟩), fm_some, fm_Kr, fm_some]
      exact Or.inr ⟨rfl, fun q => g (q i hi)⟩
  · rintro _ ⟨rfl, h⟩
    unfold f_Tape_takes_L2
    try dsimp only
    rw [if_pos (nI_le (Nat.le_refl _) (by omega)), fm_some, fm_Kr, fm_some]
    exact Or.inl ⟨rfl, h⟩
theorem fy_takes {w : Int64} {n : Nat} {μ : fw_M} (hn : n < 100) : fm_T (fw_wh (f_M_type_L17 w (nI n) μ) fw_N 0) (fun q => (q = .inl () ∧ ∀ i, i < n → fb_ok w i) ∨ (q = .inr (-1, μ) ∧ ¬ ∀ i, i < n → fb_ok w i)) := by
  refine fm_up (P := fun i s => s = nI i ∧ ∀ k, k < i → fb_ok w k) n ?_ ?_ 0 (Nat.zero_le _) ⟨rfl, fun k hk => absurd hk (Nat.not_lt_zero _)⟩ (by omega)
  · rintro i _ hi ⟨rfl, h⟩
    have hb := fb_lt w i
    unfold f_M_type_L17
    try dsimp only
    rw [if_neg (nI_ge hi (by omega)), fb_x, fh_in (b := 32) (c := 126) (lo := 32) (hi := 126) rfl rfl, fm_bs]
    by_cases g : fb_ok w i
    · rw [if_pos (show (32 : Int32) ≤ nI (fb_w w i) ∧ nI (fb_w w i) ≤ 126 from ⟨(nI_leI (a := 32) (by omega) (by omega)).mpr g.1, (nI_leI (b := 126) (by omega) (by omega)).mpr g.2⟩), if_neg fm_n10, fm_nm, fm_some, fm_Kl]
      refine ⟨nI_1 i, fun k hk => ?_⟩
      by_cases e : k = i
      · subst e; exact g
      · exact h k (by omega)
    · rw [if_neg (show ¬ ((32 : Int32) ≤ nI (fb_w w i) ∧ nI (fb_w w i) ≤ 126) from fun q => g ⟨(nI_leI (a := 32) (by omega) (by omega)).mp q.1, (nI_leI (b := 126) (by omega) (by omega)).mp q.2⟩), if_pos rfl, fm_some, fm_Kr]
      exact Or.inr ⟨rfl, fun q => g (q i hi)⟩
  · rintro _ ⟨rfl, h⟩
    unfold f_M_type_L17
    try dsimp only
    rw [if_pos (nI_le (Nat.le_refl _) (by omega)), fm_some, fm_Kr]
    exact Or.inl ⟨rfl, h⟩
def fm_ad (w : Int64) : Nat → List Nat → List Nat
  | 0, t => t
  | i + 1, t => fm_ad w i (t ++ [fb_w w i])
theorem fm_ad_wB {w : Int64} : ∀ {n : Nat} {t : List Nat}, wB t → t.length + n ≤ 60 → (∀ i, i < n → fb_ok w i) → wB (fm_ad w n t) ∧ (fm_ad w n t).length = t.length + n := by
  intro n
  induction n with
  | zero => intro t h _ _; exact ⟨h, rfl⟩
  | succ n ih =>
    intro t h h1 h2
    have h3 : wB (t ++ [fb_w w n]) := by
      refine ⟨by rw [List.length_append, List.length_singleton]; omega, fun i hi => ?_⟩
      rw [List.length_append, List.length_singleton] at hi
      by_cases e : i < t.length
      · rw [show fm_bb (t ++ [fb_w w n]) i = fm_bb t i from fm_gDa e]; exact h.2 i e
      · have e2 : i = t.length := by omega
        subst e2
        rw [show fm_bb (t ++ [fb_w w n]) t.length = fb_w w n from fm_gDl]; exact h2 n (by omega)
    obtain ⟨a, b⟩ := ih h3 (by rw [List.length_append, List.length_singleton]; omega) (fun i hi => h2 i (by omega))
    refine ⟨a, ?_⟩
    show (fm_ad w n (t ++ [fb_w w n])).length = _
    rw [b, List.length_append, List.length_singleton]
    omega
theorem rB.add {μ : fw_M} {a b f x : Nat} {t : List Nat} (ab : a ≠ b) (h : rB (μ.1 a f) (μ.1 b) t) : rB ((fw_wr (fw_wr μ b t.length (nI x)) a f (nI t.length + 1)).1 a f) ((fw_wr (fw_wr μ b t.length (nI x)) a f (nI t.length + 1)).1 b) (t ++ [x]) := by
  refine ⟨by rw [fm_wr, if_pos ⟨rfl, rfl⟩, nI_1, List.length_append, List.length_singleton], fun i hi => ?_⟩
  rw [List.length_append, List.length_singleton] at hi
  by_cases e : i < t.length
  · rw [show fm_bb (t ++ [x]) i = fm_bb t i from fm_gDa e]
    simp only [fm_wr, ab.symm, false_and, if_false, show ¬ i = t.length by omega, and_false]
    exact h.2 i e
  · have e2 : i = t.length := by omega
    subst e2
    rw [show fm_bb (t ++ [x]) t.length = x from fm_gDl]
    simp only [fm_wr, ab.symm, false_and, if_false, and_self, if_true]
theorem fx_tadd {w : Int64} {n : Nat} {μ : fw_M} {t : List Nat} (h : rB (μ.1 63 1) (μ.1 64) t) (hn : 1 ≤ n) (hl : t.length + n ≤ 60) : fm_T (f_Tape_add w (nI n) μ) (fun ν => fm_F [63, 64] μ ν ∧ rB (ν.1 63 1) (ν.1 64) (fm_ad w n t)) := by
  unfold f_Tape_add
  rw [fm_nm, fm_bind, show nI n - 1 = nD n from rfl]
  refine fm_dn (P := fun i s => s.1 = nD i ∧ fm_F [63, 64] μ s.2 ∧ ∃ t2 : List Nat, t2.length + i = t.length + n ∧ fm_ad w i t2 = fm_ad w n t ∧ rB (s.2.1 63 1) (s.2.1 64) t2) ?_ ?_ n ⟨rfl, fm_F.rf, t, rfl, rfl, h⟩ (by omega)
  · rintro i ⟨x, ν⟩ ⟨h1, h2, t2, h3, h4, h5⟩
    simp only at h1 h2 h3 h4 h5
    subst h1
    unfold f_Tape_add_L5
    try dsimp only
    rw [nD_s, if_neg (nI_pos (by omega)), h5.1, if_neg (fh_nge (c := 60) (b := 60) rfl (by omega) (by omega)), fb_byte, fm_bs, fm_si (by omega) (by omega), fm_bs, fm_nmE, fm_bs, fm_nm, nD_m, fm_some, fm_Kl]
    have e : (fw_wr ν 64 t2.length (nI (fb_w w i))).1 63 1 = nI t2.length := by simp only [fm_bs, fm_nmE, fm_n10, if_true, if_false, fm_wr, Nat.reduceEqDiff, false_and, and_false, true_and, and_true, and_self, reduceIte]; exact h5.1
    rw [e]
    exact ⟨rfl, (h2.wr).wr, t2 ++ [fb_w w i], by rw [List.length_append, List.length_singleton]; omega, h4, rB.add (by decide) h5⟩
  · rintro ⟨x, ν⟩ ⟨h1, h2, t2, h3, h4, h5⟩
    simp only at h1 h2 h3 h4 h5
    subst h1
    unfold f_Tape_add_L5
    try dsimp only
    rw [if_pos (show nD 0 < 0 by decide), fm_some, fm_Kr, fm_some]
    exact ⟨h2, h4 ▸ h5⟩
theorem fy_tadd {w : Int64} {n : Nat} {μ : fw_M} {t : List Nat} (h : rB (μ.1 0 15) (μ.1 10) t) (hn : 1 ≤ n) (hl : t.length + n ≤ 60) : fm_T (fw_wh (f_M_type_L73 w) fw_N (nD n, μ)) (fun ν => fm_F [0, 10] μ ν ∧ (∀ f, f ≠ 15 → ν.1 0 f = μ.1 0 f) ∧ rB (ν.1 0 15) (ν.1 10) (fm_ad w n t)) := by
  refine fm_dn (P := fun i s => s.1 = nD i ∧ fm_F [0, 10] μ s.2 ∧ (∀ f, f ≠ 15 → s.2.1 0 f = μ.1 0 f) ∧ ∃ t2 : List Nat, t2.length + i = t.length + n ∧ fm_ad w i t2 = fm_ad w n t ∧ rB (s.2.1 0 15) (s.2.1 10) t2) ?_ ?_ n ⟨rfl, fm_F.rf, fun _ _ => rfl, t, rfl, rfl, h⟩ (by omega)
  · rintro i ⟨x, ν⟩ ⟨h1, h2, h6, t2, h3, h4, h5⟩
    simp only at h1 h2 h3 h4 h5 h6
    subst h1
    unfold f_M_type_L73
    try dsimp only
    rw [nD_s, if_neg (nI_pos (by omega)), h5.1, fb_x, lg_l2i_i2l, fm_si (by omega) (by omega), fm_bs, fm_nm, fm_nm, nD_m, fm_some, fm_Kl]
    have e : (fw_wr ν 10 t2.length (nI (fb_w w i))).1 0 15 = nI t2.length := by simp only [fm_bs, fm_nmE, fm_n10, if_true, if_false, fm_wr, Nat.reduceEqDiff, false_and, and_false, true_and, and_true, and_self, reduceIte]; exact h5.1
    rw [e]
    exact ⟨rfl, (h2.wr).wr, fun f hf => by simp only [fm_bs, fm_nmE, fm_n10, if_true, if_false, fm_wr, Nat.reduceEqDiff, false_and, and_false, true_and, and_true, and_self, reduceIte, hf, h6 f hf], t2 ++ [fb_w w i], by rw [List.length_append, List.length_singleton]; omega, h4, rB.add (by decide) h5⟩
  · rintro ⟨x, ν⟩ ⟨h1, h2, h6, t2, h3, h4, h5⟩
    simp only at h1 h2 h3 h4 h5 h6
    subst h1
    unfold f_M_type_L73
    try dsimp only
    rw [if_pos (show nD 0 < 0 by decide), fm_some, fm_Kr]
    exact ⟨h2, h6, h4 ▸ h5⟩
theorem fo_type : fw_O_type fm_I := by
  intro n μx μm hn hI a1 a3
  have hI2 := hI.up
  obtain ⟨⟨C, wc, xs, ms, kp⟩, im, ⟨t, wt, tx, tm⟩, sh, rk⟩ := hI
  have h60 := wt.1
  unfold f_X_type f_M_type
  rw [fh_in (a := a3) (b := 1) (c := 8) (lo := 1) (hi := 8) rfl rfl]
  by_cases h1 : 1 ≤ a3 ∧ a3 ≤ 8
  · rw [fh_s1 h1, if_pos h1, fm_bs, if_neg fm_n10]
    obtain ⟨p, hp1, hp2, rfl⟩ := fh_cl (l := 1) (n := 8) rfl rfl (by omega) (by omega) h1
    obtain ⟨q, eq, hq⟩ := fy_takes (w := a1) (n := p) (μ := μm) (by omega)
    obtain ⟨r, er, hr⟩ := fx_takes (w := a1) (n := p) (by omega)
    rw [eq, er, fm_bs, fm_bs]
    by_cases g : ∀ i, i < p → fb_ok a1 i
    · have hr1 : r = 1 := by rcases hr with h | h
                             · exact h.1
                             · exact absurd g h.2
      have hq1 : q = .inl () := by rcases hq with h | h
                                   · exact h.1
                                   · exact absurd g h.2
      subst hr1 hq1
      simp only [fm_n10, if_false]
      rw [tx.1, tm.1, nI_add]
      by_cases hf : t.length + p ≤ 60
      · have c1 : nI (t.length + p) ≤ 60 := (nI_leI (b := 60) (by omega) (by omega)).mpr hf
        rw [if_pos c1, if_pos c1]
        obtain ⟨νx, e1, F, b1⟩ := fx_tadd (w := a1) tx hp1 hf
        obtain ⟨νm, e2, G, Z, b2⟩ := fy_tadd (w := a1) tm hp1 hf
        simp only [fm_nmE, show nI p - 1 = nD p from rfl, e1, e2, fm_bs]
        rw [b1.1, b2.1]
        obtain ⟨w1, w2⟩ := fm_ad_wB wt hf g
        refine ⟨_, _, _, rfl, rfl, ⟨C, wc, xs.cong (F.rg 1 31) wc.2.2.2.2.1.1, ms.cong (Z 0 (by decide)) (Z 6 (by decide)) (Z 8 (by decide)) (Z 9 (by decide)) (Z 11 (by decide)) (G.rg 1 9), kp.cong (F.at 81) (F.at 82)⟩, im.cong (F.at 0) (F.rg 32 62) (Z 32 (by decide)) (G.at 23), ⟨_, w1, b1, b2⟩, fm_sheets sh (F.rg 86 93) (G.at 24) (G.at 25) (G.at 26), rk.st G (Z 21 (by decide))⟩
      · have c1 : ¬ nI (t.length + p) ≤ 60 := fun e => hf ((nI_leI (b := 60) (by omega) (by omega)).mp e)
        rw [if_neg c1, if_neg c1]
        exact ⟨_, _, _, rfl, rfl, hI2⟩
    · have hr1 : r = 0 := by rcases hr with h | h
                             · exact absurd h.2 g
                             · exact h.1
      have hq1 : q = .inr (-1, μm) := by rcases hq with h | h
                                         · exact absurd h.2 g
                                         · exact h.1
      subst hr1 hq1
      exact ⟨_, _, _, rfl, rfl, hI2⟩
  · rw [fh_s0 h1, if_neg h1, fm_bs, if_pos rfl]
    exact ⟨_, _, _, rfl, rfl, hI2⟩
