/-! make -/
theorem fp_plan_at {can : Nat → Prop} : ∀ (P : List Nat) (s : Nat), fp_plan can P s → ∀ j, j < P.length → can (P.getD j 0) ∧ fs_in (P.getD j 0) s := by
  intro P
  induction P with
  | nil => intro s _ j hj; exact absurd hj (Nat.not_lt_zero _)
  | cons p P ih =>
    intro s ⟨h1, _, h3⟩ j hj
    cases j with
    | zero => exact ⟨h1.2.2.1, h1.2.1⟩
    | succ j =>
      obtain ⟨a, b⟩ := ih _ h3 j (by simpa using hj)
      exact ⟨a, fs_tr b (fs_x h1.2.1)⟩
/-- the soap t is used at a place ahead of p -/
def fwe (T : List fm_Ty) (L : fm_Li) (w s p t : Nat) : Prop := (fm_tt T t).1 = 3 ∧ ∃ i, i < p ∧ s.testBit i = true ∧ fA T L w s 0 0 i = t
noncomputable def fw1 (T : List fm_Ty) (L : fm_Li) (w n s p t : Nat) : Nat := @ite _ (fwe T L w s p t) (Classical.propDecidable _) n 0
noncomputable def fwr (T : List fm_Ty) (L : fm_Li) (w n : Nat) (P : List Nat) (t : Nat) : Nat → Nat := fm_su (fun j => fw1 T L w n (P.getD j 0) L.1.length t)
theorem fw1_y {T : List fm_Ty} {L : fm_Li} {w n s p t : Nat} (h : fwe T L w s p t) : fw1 T L w n s p t = n := if_pos h
theorem fw1_n {T : List fm_Ty} {L : fm_Li} {w n s p t : Nat} (h : ¬ fwe T L w s p t) : fw1 T L w n s p t = 0 := if_neg h
theorem fwr_le {T : List fm_Ty} {L : fm_Li} {w n t : Nat} {P : List Nat} (k : Nat) : fwr T L w n P t k ≤ n * k := fm_su_b k (fun j _ => by unfold fw1; split <;> omega)
theorem fwr_0 {T : List fm_Ty} {L : fm_Li} {w n t : Nat} {P : List Nat} (h : (fm_tt T t).1 ≠ 3) (k : Nat) : fwr T L w n P t k = 0 := by
  have := fm_su_b (g := fun j => fw1 T L w n (P.getD j 0) L.1.length t) (b := 0) k (fun j _ => by rw [fw1_n (fun z => h z.1)]; exact Nat.le_refl _)
  unfold fwr
  omega
theorem fi_sub (x : Int32) (a b : Nat) : x - nI a - nI b = x - nI (a + b) := by
  rw [← nI_add]
  apply Int32.toBitVec_inj.mp
  show x.toBitVec - (nI a).toBitVec - (nI b).toBitVec = x.toBitVec - ((nI a).toBitVec + (nI b).toBitVec)
  rw [BitVec.sub_eq_add_neg, BitVec.sub_eq_add_neg, BitVec.sub_eq_add_neg, BitVec.neg_add, BitVec.sub_eq_add_neg, BitVec.add_assoc]
theorem fi_sub0 (x : Int32) : x - nI 0 = x := by
  apply Int32.toBitVec_inj.mp
  show x.toBitVec - 0#32 = x.toBitVec
  simp
theorem fx_wear {μ : fw_M} {T : List fm_Ty} {L : fm_Li} {w n s : Nat} {v : Nat → Int32} (wt : wT T) (wl : wL L) (h3 : ∀ i, i < T.length → μ.1 3 i = nI (fm_tt T i).1) (hs2 : μ.1 2 3 = nI T.length) (h6 : μ.1 6 1 = nI L.1.length) (hs : s < 1024) (can : fp_can T L w s) (hc : ∀ i, i < L.1.length → s.testBit i = true → μ.1 83 i = nI (fA T L w s 0 0 i)) (hv : ∀ t, t < T.length → μ.1 5 t = v t) : fm_T (f_X_wearByPull (nI s) (nI n) μ) (fun ν => fm_F [5] μ ν ∧ ν.2 = μ.2 ∧ ∀ t, t < T.length → ν.1 5 t = v t - nI (fw1 T L w n s L.1.length t)) := by
  have t10 := wt.1
  have l10 := wl.1
  obtain ⟨ok1, ok2⟩ := fA_ok L.1.length 0 0 (by omega) (fp_can_q.mp can)
  unfold f_X_wearByPull
  rw [fm_bind]
  refine fm_up (P := fun p st => st.1 = nI p ∧ fm_F [5] μ st.2 ∧ st.2.2 = μ.2 ∧ ∀ t, t < T.length → st.2.1 5 t = v t - nI (fw1 T L w n s p t)) L.1.length ?_ ?_ 0 (Nat.zero_le _) ⟨rfl, fm_F.rf, rfl, fun t ht => by rw [fw1_n (fun z => by obtain ⟨_, i, hi, _⟩ := z; omega), fi_sub0]; exact hv t ht⟩ (by omega)
  · rintro p ⟨x, ν⟩ hp ⟨e1, F, f2, a1⟩
    simp only at e1 F f2 a1
    subst e1
    have same : ∀ t, (¬ (s.testBit p = true ∧ fA T L w s 0 0 p = t ∧ (fm_tt T t).1 = 3)) → fw1 T L w n s (p + 1) t = fw1 T L w n s p t := fun t no => by
      by_cases q : fwe T L w s p t
      · obtain ⟨k3, i, i1, i2, i3⟩ := q
        rw [fw1_y ⟨k3, i, i1, i2, i3⟩, fw1_y ⟨k3, i, by omega, i2, i3⟩]
      · rw [fw1_n q, fw1_n (fun ⟨k3, i, i1, i2, i3⟩ => by
          by_cases e : i = p
          · rw [e] at i2 i3; exact no ⟨i2, i3, k3⟩
          · exact q ⟨k3, i, by omega, i2, i3⟩)]
    have skip : (∀ t, t < T.length → ¬ (s.testBit p = true ∧ fA T L w s 0 0 p = t ∧ (fm_tt T t).1 = 3)) → fm_T (fw_nm (nI p + 1) fun (v81 : Int32) => (some (.inl (v81, ν)) : Option ((Int32 × fw_M) ⊕ fw_M))) (fm_K (fun st => st.1 = nI (p + 1) ∧ fm_F [5] μ st.2 ∧ st.2.2 = μ.2 ∧ ∀ t, t < T.length → st.2.1 5 t = v t - nI (fw1 T L w n s (p + 1) t)) (fun a => fm_T (some a) fun ν => fm_F [5] μ ν ∧ ν.2 = μ.2 ∧ ∀ t, t < T.length → ν.1 5 t = v t - nI (fw1 T L w n s L.1.length t))) := fun no => by
      rw [fm_nm, fm_some, fm_Kl]
      exact ⟨nI_1 p, F, f2, fun t ht => by rw [same t (no t ht)]; exact a1 t ht⟩
    unfold f_X_wearByPull_L2
    try dsimp only
    rw [F.at 6, h6, if_neg (nI_ge hp (by omega)), fm_inSet (by omega) (by omega), fm_bs]
    by_cases b : s.testBit p = true
    · obtain ⟨al, _⟩ := ok1 p (Nat.zero_le _) hp b
      have c1 := (fm_ok_lt (wt.2 _ al)).1
      have k3 : nI (fm_tt T (fA T L w s 0 0 p)).1 = 3 ↔ (fm_tt T (fA T L w s 0 0 p)).1 = 3 := nI_eq (b := 3) (by omega) (by omega)
      rw [if_pos b, if_neg fm_n10, fm_rd (by omega) (by omega), fm_bs, F.at 83, hc p hp b, fh_has, F.at 2, hs2, if_pos (fh_csI (by omega) al), fm_bs, if_neg fm_n10, fm_rd (by omega) (by omega), fm_bs, F.at 3, h3 _ al]
      by_cases k : (fm_tt T (fA T L w s 0 0 p)).1 = 3
      · have nb : ¬ fwe T L w s p (fA T L w s 0 0 p) := fun ⟨_, i, i1, i2, i3⟩ => by
          have := ok2 i p (Nat.zero_le _) i1 hp i2 b i3
          rw [i3] at this
          omega
        rw [if_pos (k3.mpr k), fm_rd (by omega) (by omega), fm_bs, fm_si (by omega) (by omega), fm_bs, fm_bs, fm_nm, fm_some, fm_Kl]
        refine ⟨nI_1 p, F.wr, f2, fun t ht => ?_⟩
        by_cases e : t = fA T L w s 0 0 p
        · rw [e, fm_wr, if_pos ⟨rfl, rfl⟩, a1 _ al, fw1_n nb, fi_sub, Nat.zero_add, fw1_y (show fwe T L w s (p + 1) (fA T L w s 0 0 p) from ⟨k, p, by omega, b, rfl⟩)]
        · rw [fm_wr, if_neg (fun z => e z.2), same t (fun z => e z.2.1.symm)]
          exact a1 t ht
      · rw [if_neg (fun z => k (k3.mp z)), fm_bs]
        exact skip (fun t _ z => k (by rw [z.2.1]; exact z.2.2))
    · rw [if_neg b, if_pos rfl, fm_bs]
      exact skip (fun t _ z => b z.1)
  · rintro ⟨x, ν⟩ ⟨e1, F, f2, a1⟩
    simp only at e1 F f2 a1
    subst e1
    unfold f_X_wearByPull_L2
    try dsimp only
    rw [F.at 6, h6, if_pos (nI_le (Nat.le_refl _) (by omega)), fm_some, fm_Kr, fm_some]
    exact ⟨F, f2, a1⟩
theorem fx_wearL {μ : fw_M} {T : List fm_Ty} {L : fm_Li} {w n : Nat} {us P : List Nat} (wt : wT T) (wl : wL L) (hw : w ≤ 1) (h : xP μ T L w us) (hn : xN μ L.1.length us.length) (hT : rT (μ.1 2 3) (μ.1 3) (μ.1 4) (μ.1 5) T) (h6 : μ.1 6 1 = nI L.1.length) (hP : ∀ j, j < P.length → fp_can T L w (P.getD j 0) ∧ P.getD j 0 < 1024) (p10 : P.length ≤ 10) (h82 : ∀ j, j < P.length → μ.1 82 j = nI (P.getD j 0)) : fm_T (fw_wh (f_X_wearSoap_L6 (nI P.length) (nI n)) fw_N (0, μ)) (fun ν => fm_F [5, 83] μ ν ∧ ∀ t, t < T.length → ν.1 5 t = nI (fm_tt T t).2.2 - nI (fwr T L w n P t P.length)) := by
  have t10 := wt.1
  have l10 := wl.1
  refine fm_up (P := fun k st => st.1 = nI k ∧ fm_F [5, 83] μ st.2 ∧ xN st.2 L.1.length us.length ∧ ∀ t, t < T.length → st.2.1 5 t = nI (fm_tt T t).2.2 - nI (fwr T L w n P t k)) P.length ?_ ?_ 0 (Nat.zero_le _) ⟨rfl, fm_F.rf, hn, fun t ht => by rw [show fwr T L w n P t 0 = 0 from rfl, fi_sub0]; exact (hT.2 t ht).2.2⟩ (by omega)
  · rintro k ⟨x, ν⟩ hk ⟨e1, F, hN, a1⟩
    simp only at e1 F hN a1
    subst e1
    obtain ⟨can, plt⟩ := hP k hk
    have hν : xP ν T L w us := h.cong (fun j j1 j2 => F j (by simp; omega))
    unfold f_X_wearSoap_L6
    try dsimp only
    rw [if_neg (nI_ge hk (by omega)), if_neg (fh_nge (c := 10) (b := 10) rfl (by omega) (by omega)), fm_rd (by omega) (by omega), fm_bs, F.at 82, h82 k hk, fm_bind]
    refine (fx_way (s := P.getD k 0) hν hN wl wt hw plt).mono ?_
    rintro ⟨r, ξ⟩ ⟨rfl, G, hN2, v1⟩
    simp only at G hN2 v1 ⊢
    have FG : fm_F [5, 83] μ ξ := F.tr G.up
    rw [fB1 can, if_neg fm_n10, fm_rd (by omega) (by omega), fm_bs, FG.at 82, h82 k hk, fm_bind, fm_bind]
    refine (fx_wear (n := n) (v := fun t => nI (fm_tt T t).2.2 - nI (fwr T L w n P t k)) wt wl (fun i hi => by rw [FG.at 3]; exact (hT.2 i hi).1) (by rw [FG.at 2]; exact hT.1) (by rw [FG.at 6]; exact h6) plt can (v1 can) (fun t ht => by rw [G.at 5]; exact a1 t ht)).mono ?_
    intro ζ ⟨H, z2, a2⟩
    rw [fm_some, fm_nm, fm_some, fm_Kl]
    refine ⟨nI_1 k, FG.tr H.up, fun i hi => by rw [z2]; exact hN2 i hi, fun t ht => ?_⟩
    rw [a2 t ht, fi_sub]
    rfl
  · rintro ⟨x, ν⟩ ⟨e1, F, hN, a1⟩
    simp only at e1 F hN a1
    subst e1
    unfold f_X_wearSoap_L6
    try dsimp only
    rw [if_pos (nI_le (Nat.le_refl _) (by omega)), fm_some, fm_Kr]
    exact ⟨F, a1⟩
/-- what is left of the types from t on -/
def fre (T : List fm_Ty) (W : Nat → Nat) : Nat → List fm_Ty → List fm_Ty
  | 0, R => R
  | t + 1, R => fre T W t (if (fm_tt T t).1 = 3 ∧ (fm_tt T t).2.2 ≤ W t then R else ((fm_tt T t).1, (fm_tt T t).2.1, (fm_tt T t).2.2 - W t) :: R)
theorem fi_pos {m W : Nat} (hm : m < 1000) (hW : W < 100000) : (0 < nI m - nI W ↔ ¬ m ≤ W) ∧ (1 ≤ nI m - nI W ↔ ¬ m ≤ W) := by
  have e : (nI m - nI W).toInt = (m : Int) - W := pk_sub_toInt (by omega) (by omega)
  rw [Int32.lt_iff_toInt_lt, Int32.le_iff_toInt_le, e, show (0 : Int32).toInt = 0 from rfl, show (1 : Int32).toInt = 1 from rfl]
  omega
/-- rows: the first t of one kind, then a list -/
def frw (row : Nat → Int32) (f : Nat → Int32) (g : fm_Ty → Nat) (R : List fm_Ty) (t : Nat) : Prop := (∀ i, i < t → row i = f i) ∧ ∀ j, j < R.length → row (t + j) = nI (g (fm_tt R j))
theorem frw_keep {row f : Nat → Int32} {g : fm_Ty → Nat} {R : List fm_Ty} {t : Nat} {x : fm_Ty} (h : frw row f g R (t + 1)) (hx : f t = nI (g x)) : frw row f g (x :: R) t := by
  refine ⟨fun i hi => h.1 i (by omega), fun j hj => ?_⟩
  cases j with
  | zero => rw [Nat.add_zero, h.1 t (by omega), hx]; rfl
  | succ j =>
    rw [show t + (j + 1) = t + 1 + j by omega, h.2 j (by simpa using hj)]
    rfl
theorem frw_drop {row row2 f : Nat → Int32} {g : fm_Ty → Nat} {R : List fm_Ty} {t : Nat} (h : frw row f g R (t + 1)) (hr : ∀ i, i < t + R.length → row2 i = row (fm_sh t i)) : frw row2 f g R t := by
  refine ⟨fun i hi => ?_, fun j hj => ?_⟩
  · rw [hr i (by omega), show fm_sh t i = i by unfold fm_sh; rw [if_pos hi]]
    exact h.1 i (by omega)
  · rw [hr (t + j) (by omega), show fm_sh t (t + j) = t + 1 + j by unfold fm_sh; rw [if_neg (by omega)]; omega]
    exact h.2 j hj
theorem frw_f {row f f2 : Nat → Int32} {g : fm_Ty → Nat} {R : List fm_Ty} {t : Nat} (h : frw row f g R t) (e : ∀ i, i < t → f i = f2 i) : frw row f2 g R t := ⟨fun i hi => (h.1 i hi).trans (e i hi), h.2⟩
theorem fx_drop {μ : fw_M} {T : List fm_Ty} {W : Nat → Nat} (wt : wT T) (hW : ∀ t, W t < 100000) (h0 : ∀ t, (fm_tt T t).1 ≠ 3 → W t = 0) (hs : μ.1 2 3 = nI T.length) (h3 : ∀ t, t < T.length → μ.1 3 t = nI (fm_tt T t).1) (h4 : ∀ t, t < T.length → μ.1 4 t = nI (fm_tt T t).2.1) (h5 : ∀ t, t < T.length → μ.1 5 t = nI (fm_tt T t).2.2 - nI (W t)) : fm_T (fw_wh f_X_wearSoap_L67 fw_N (nD T.length, μ)) (fun ν => fm_F [2, 3, 4, 5, 81] μ ν ∧ rT (ν.1 2 3) (ν.1 3) (ν.1 4) (ν.1 5) (fre T W T.length []) ∧ ((∀ j, j < 9 → ν.1 81 j = 0) ∨ (ν.1 81 = μ.1 81 ∧ (fre T W T.length []).length = T.length))) := by
  have t10 := wt.1
  refine fm_dn (P := fun t st => st.1 = nD t ∧ t ≤ T.length ∧ fm_F [2, 3, 4, 5, 81] μ st.2 ∧ ∃ R : List fm_Ty, fre T W t R = fre T W T.length [] ∧ t + R.length ≤ T.length ∧ st.2.1 2 3 = nI (t + R.length) ∧ frw (st.2.1 3) (fun i => nI (fm_tt T i).1) (fun x => x.1) R t ∧ frw (st.2.1 4) (fun i => nI (fm_tt T i).2.1) (fun x => x.2.1) R t ∧ frw (st.2.1 5) (fun i => nI (fm_tt T i).2.2 - nI (W i)) (fun x => x.2.2) R t ∧ ((∀ j, j < 9 → st.2.1 81 j = 0) ∨ (st.2.1 81 = μ.1 81 ∧ t + R.length = T.length))) ?_ ?_ T.length ⟨rfl, Nat.le_refl _, fm_F.rf, [], rfl, by simp, by rw [hs]; simp, ⟨h3, fun j hj => absurd hj (Nat.not_lt_zero _)⟩, ⟨h4, fun j hj => absurd hj (Nat.not_lt_zero _)⟩, ⟨h5, fun j hj => absurd hj (Nat.not_lt_zero _)⟩, Or.inr ⟨rfl, by simp⟩⟩ (by omega)
  · rintro t ⟨x, ν⟩ ⟨e1, ht, F, R, fe, rl, s2, r3, r4, r5, kz⟩
    simp only at e1 F s2 r3 r4 r5 kz
    subst e1
    obtain ⟨c1, c2, c3⟩ := fm_ok_lt (wt.2 t (by omega))
    have Wt := hW t
    have k3 : nI (fm_tt T t).1 = 3 ↔ (fm_tt T t).1 = 3 := nI_eq (b := 3) (by omega) (by omega)
    obtain ⟨q1, _⟩ := fi_pos (m := (fm_tt T t).2.2) (W := W t) (by omega) Wt
    have keep : ¬ ((fm_tt T t).1 = 3 ∧ (fm_tt T t).2.2 ≤ W t) → fm_T (fw_nm (nI t + (-1)) fun (v117 : Int32) => (some (.inl (v117, ν)) : Option ((Int32 × fw_M) ⊕ fw_M))) (fm_K (fun st => st.1 = nD t ∧ t ≤ T.length ∧ fm_F [2, 3, 4, 5, 81] μ st.2 ∧ ∃ R : List fm_Ty, fre T W t R = fre T W T.length [] ∧ t + R.length ≤ T.length ∧ st.2.1 2 3 = nI (t + R.length) ∧ frw (st.2.1 3) (fun i => nI (fm_tt T i).1) (fun x => x.1) R t ∧ frw (st.2.1 4) (fun i => nI (fm_tt T i).2.1) (fun x => x.2.1) R t ∧ frw (st.2.1 5) (fun i => nI (fm_tt T i).2.2 - nI (W i)) (fun x => x.2.2) R t ∧ ((∀ j, j < 9 → st.2.1 81 j = 0) ∨ (st.2.1 81 = μ.1 81 ∧ t + R.length = T.length))) (fun ν => fm_F [2, 3, 4, 5, 81] μ ν ∧ rT (ν.1 2 3) (ν.1 3) (ν.1 4) (ν.1 5) (fre T W T.length []) ∧ ((∀ j, j < 9 → ν.1 81 j = 0) ∨ (ν.1 81 = μ.1 81 ∧ (fre T W T.length []).length = T.length)))) := fun no => by
      rw [fm_nm, nD_m, fm_some, fm_Kl]
      have le : W t ≤ (fm_tt T t).2.2 := by
        by_cases q : (fm_tt T t).1 = 3
        · by_cases z : (fm_tt T t).2.2 ≤ W t
          · exact absurd ⟨q, z⟩ no
          · omega
        · rw [h0 t q]; exact Nat.zero_le _
      refine ⟨rfl, by omega, F, ((fm_tt T t).1, (fm_tt T t).2.1, (fm_tt T t).2.2 - W t) :: R, ?_, by rw [List.length_cons]; omega, by rw [s2, List.length_cons, show t + 1 + R.length = t + (R.length + 1) by omega], frw_keep r3 rfl, frw_keep r4 rfl, frw_keep r5 (pk_sub le), ?_⟩
      · rw [← fe]
        show _ = fre T W t (if (fm_tt T t).1 = 3 ∧ (fm_tt T t).2.2 ≤ W t then R else _)
        rw [if_neg no]
      · rcases kz with kz | ⟨kz, kl⟩
        · exact Or.inl kz
        · exact Or.inr ⟨kz, by rw [List.length_cons]; omega⟩
    unfold f_X_wearSoap_L67
    try dsimp only
    rw [nD_s, if_neg (nI_pos (by omega)), fm_rd (by omega) (by omega), fm_bs, r3.1 t (by omega)]
    by_cases k : (fm_tt T t).1 = 3
    · rw [if_pos (k3.mpr k), fm_rd (by omega) (by omega), fm_bs, r5.1 t (by omega)]
      by_cases z : (fm_tt T t).2.2 ≤ W t
      · rw [if_neg (fun y => (q1.mp y) z), fm_bind, fm_bind]
        refine (fx_remove (j := t) (m := t + R.length) (μ := ν) (by rw [s2, show t + 1 + R.length = t + R.length + 1 by omega]) (by omega) (by omega)).mono ?_
        intro ξ ⟨G, g2, g3⟩
        rw [fm_bind]
        refine fh_forget.mono ?_
        intro ζ ⟨H, hz⟩
        rw [fm_some, fm_nm, nD_m, fm_some, fm_Kl]
        refine ⟨rfl, by omega, (F.tr G.up).tr H.up, R, ?_, by omega, by rw [H.at 2]; exact g2, ?_, ?_, ?_, Or.inl hz⟩
        · rw [← fe]
          show _ = fre T W t (if (fm_tt T t).1 = 3 ∧ (fm_tt T t).2.2 ≤ W t then R else _)
          rw [if_pos ⟨k, z⟩]
        · rw [H.at 3]; exact frw_drop r3 (g3 3 (by decide))
        · rw [H.at 4]; exact frw_drop r4 (g3 4 (by decide))
        · rw [H.at 5]; exact frw_drop r5 (g3 5 (by decide))
      · rw [if_pos (q1.mpr z), fm_bs]
        exact keep (fun y => z y.2)
    · rw [if_neg (fun y => k (k3.mp y)), fm_bs]
      exact keep (fun y => k y.1)
  · rintro ⟨x, ν⟩ ⟨e1, ht, F, R, fe, rl, s2, r3, r4, r5, kz⟩
    simp only at e1 F s2 r3 r4 r5 kz
    subst e1
    unfold f_X_wearSoap_L67
    try dsimp only
    rw [if_pos (show nD 0 < 0 by decide), fm_some, fm_Kr, ← fe]
    refine ⟨F, ⟨by rw [s2, Nat.zero_add]; rfl, fun i hi => ?_⟩, ?_⟩
    · have a := r3.2 i hi
      have b := r4.2 i hi
      have c := r5.2 i hi
      rw [Nat.zero_add] at a b c
      exact ⟨a, b, c⟩
    · rcases kz with kz | ⟨kz, kl⟩
      · exact Or.inl kz
      · exact Or.inr ⟨kz, by rw [Nat.zero_add] at kl; exact kl⟩
theorem fy_drop {μ : fw_M} {T : List fm_Ty} {W : Nat → Nat} (wt : wT T) (hW : ∀ t, W t < 100000) (h0 : ∀ t, (fm_tt T t).1 ≠ 3 → W t = 0) (hT : rT (μ.1 0 0) (μ.1 1) (μ.1 2) (μ.1 3) T) (hw : ∀ t, t < T.length → μ.1 21 t = nI (W t)) : fm_T (fw_wh f_M_make_L196 fw_N (nD T.length, μ)) (fun ν => fm_F [0, 1, 2, 3] μ ν ∧ (∀ j, j ≠ 0 → ν.1 0 j = μ.1 0 j) ∧ rT (ν.1 0 0) (ν.1 1) (ν.1 2) (ν.1 3) (fre T W T.length [])) := by
  have t10 := wt.1
  refine fm_dn (P := fun t st => st.1 = nD t ∧ t ≤ T.length ∧ fm_F [0, 1, 2, 3] μ st.2 ∧ (∀ j, j ≠ 0 → st.2.1 0 j = μ.1 0 j) ∧ ∃ R : List fm_Ty, fre T W t R = fre T W T.length [] ∧ t + R.length ≤ T.length ∧ st.2.1 0 0 = nI (t + R.length) ∧ frw (st.2.1 1) (fun i => nI (fm_tt T i).1) (fun x => x.1) R t ∧ frw (st.2.1 2) (fun i => nI (fm_tt T i).2.1) (fun x => x.2.1) R t ∧ frw (st.2.1 3) (fun i => nI (fm_tt T i).2.2) (fun x => x.2.2) R t) ?_ ?_ T.length ⟨rfl, Nat.le_refl _, fm_F.rf, fun _ _ => rfl, [], rfl, by simp, by rw [hT.1]; simp, ⟨fun i hi => (hT.2 i hi).1, fun j hj => absurd hj (Nat.not_lt_zero _)⟩, ⟨fun i hi => (hT.2 i hi).2.1, fun j hj => absurd hj (Nat.not_lt_zero _)⟩, ⟨fun i hi => (hT.2 i hi).2.2, fun j hj => absurd hj (Nat.not_lt_zero _)⟩⟩ (by omega)
  · rintro t ⟨x, ν⟩ ⟨e1, ht, F, Z, R, fe, rl, s2, r3, r4, r5⟩
    simp only at e1 F Z s2 r3 r4 r5
    subst e1
    obtain ⟨c1, c2, c3⟩ := fm_ok_lt (wt.2 t (by omega))
    have Wt := hW t
    have k3 : nI (fm_tt T t).1 = 3 ↔ (fm_tt T t).1 = 3 := nI_eq (b := 3) (by omega) (by omega)
    obtain ⟨_, q1⟩ := fi_pos (m := (fm_tt T t).2.2) (W := W t) (by omega) Wt
    unfold f_M_make_L196
    try dsimp only
    rw [nD_s, if_neg (nI_pos (by omega)), fm_rd (by omega) (by omega), fm_bs, fm_rd (by omega) (by omega), fm_bs, r5.1 t (by omega), F.at 21, hw t (by omega), fm_si (by omega) (by omega), fm_bs]
    generalize hν2 : fw_wr ν 3 t (nI (fm_tt T t).2.2 - nI (W t)) = ν2
    have F2 : fm_F [0, 1, 2, 3] μ ν2 := by rw [← hν2]; exact F.wr
    have Z2 : ∀ j, ν2.1 0 j = ν.1 0 j := fun j => by rw [← hν2, fm_wrn (by decide)]
    have b3 : frw (ν2.1 1) (fun i => nI (fm_tt T i).1) (fun x => x.1) R (t + 1) := by rw [← hν2, fm_wrn (by decide)]; exact r3
    have b4 : frw (ν2.1 2) (fun i => nI (fm_tt T i).2.1) (fun x => x.2.1) R (t + 1) := by rw [← hν2, fm_wrn (by decide)]; exact r4
    have b5 : frw (ν2.1 3) (fun i => if i = t then nI (fm_tt T t).2.2 - nI (W t) else nI (fm_tt T i).2.2) (fun x => x.2.2) R (t + 1) := by
      rw [← hν2]
      refine ⟨fun i hi => ?_, fun j hj => ?_⟩
      · show _ = (if i = t then nI (fm_tt T t).2.2 - nI (W t) else nI (fm_tt T i).2.2)
        by_cases e : i = t
        · rw [fm_wr, if_pos ⟨rfl, e⟩, if_pos e]
        · rw [fm_wr, if_neg (fun z => e z.2), if_neg e]; exact r5.1 i hi
      · rw [fm_wr, if_neg (by omega)]; exact r5.2 j hj
    have v3 : ν2.1 3 t = nI (fm_tt T t).2.2 - nI (W t) := by rw [← hν2, fm_wr, if_pos ⟨rfl, rfl⟩]
    have low : ∀ i, i < t → (if i = t then nI (fm_tt T t).2.2 - nI (W t) else nI (fm_tt T i).2.2) = nI (fm_tt T i).2.2 := fun i hi => if_neg (by omega)
    rw [fm_rd (by omega) (by omega), fm_bs, b3.1 t (by omega)]
    have keep : ¬ ((fm_tt T t).1 = 3 ∧ (fm_tt T t).2.2 ≤ W t) → fm_T (fw_nm (nI t + (-1)) fun (v117 : Int32) => (some (.inl (v117, ν2)) : Option ((Int32 × fw_M) ⊕ fw_M))) (fm_K (fun st => st.1 = nD t ∧ t ≤ T.length ∧ fm_F [0, 1, 2, 3] μ st.2 ∧ (∀ j, j ≠ 0 → st.2.1 0 j = μ.1 0 j) ∧ ∃ R : List fm_Ty, fre T W t R = fre T W T.length [] ∧ t + R.length ≤ T.length ∧ st.2.1 0 0 = nI (t + R.length) ∧ frw (st.2.1 1) (fun i => nI (fm_tt T i).1) (fun x => x.1) R t ∧ frw (st.2.1 2) (fun i => nI (fm_tt T i).2.1) (fun x => x.2.1) R t ∧ frw (st.2.1 3) (fun i => nI (fm_tt T i).2.2) (fun x => x.2.2) R t) (fun ν => fm_F [0, 1, 2, 3] μ ν ∧ (∀ j, j ≠ 0 → ν.1 0 j = μ.1 0 j) ∧ rT (ν.1 0 0) (ν.1 1) (ν.1 2) (ν.1 3) (fre T W T.length []))) := fun no => by
      rw [fm_nm, nD_m, fm_some, fm_Kl]
      have le : W t ≤ (fm_tt T t).2.2 := by
        by_cases q : (fm_tt T t).1 = 3
        · by_cases z : (fm_tt T t).2.2 ≤ W t
          · exact absurd ⟨q, z⟩ no
          · omega
        · rw [h0 t q]; exact Nat.zero_le _
      refine ⟨rfl, by omega, F2, fun j hj => (Z2 j).trans (Z j hj), ((fm_tt T t).1, (fm_tt T t).2.1, (fm_tt T t).2.2 - W t) :: R, ?_, by rw [List.length_cons]; omega, by rw [Z2, s2, List.length_cons, show t + 1 + R.length = t + (R.length + 1) by omega], frw_keep b3 rfl, frw_keep b4 rfl, frw_f (frw_keep b5 (by rw [if_pos rfl]; exact pk_sub le)) low⟩
      rw [← fe]
      show _ = fre T W t (if (fm_tt T t).1 = 3 ∧ (fm_tt T t).2.2 ≤ W t then R else _)
      rw [if_neg no]
    by_cases k : (fm_tt T t).1 = 3
    · rw [if_pos (k3.mpr k), fm_rd (by omega) (by omega), fm_bs, v3]
      by_cases z : (fm_tt T t).2.2 ≤ W t
      · rw [if_neg (fun y => (q1.mp y) z), fm_bind, fm_bind]
        refine (fy_goes (j := t) (m := t + R.length) (μ := ν2) (by rw [Z2, s2, show t + 1 + R.length = t + R.length + 1 by omega]) (by omega) (by omega)).mono ?_
        intro ξ ⟨G, g2, gz, g3⟩
        rw [fm_some, fm_nm, nD_m, fm_some, fm_Kl]
        refine ⟨rfl, by omega, F2.tr G, fun j hj => (gz j hj).trans ((Z2 j).trans (Z j hj)), R, ?_, by omega, g2, frw_drop b3 (g3 1 (by decide)), frw_drop b4 (g3 2 (by decide)), frw_f (frw_drop b5 (g3 3 (by decide))) low⟩
        rw [← fe]
        show _ = fre T W t (if (fm_tt T t).1 = 3 ∧ (fm_tt T t).2.2 ≤ W t then R else _)
        rw [if_pos ⟨k, z⟩]
      · rw [if_pos (q1.mpr z), fm_bs]
        exact keep (fun y => z y.2)
    · rw [if_neg (fun y => k (k3.mp y)), fm_bs]
      exact keep (fun y => k y.1)
  · rintro ⟨x, ν⟩ ⟨e1, ht, F, Z, R, fe, rl, s2, r3, r4, r5⟩
    simp only at e1 F Z s2 r3 r4 r5
    subst e1
    unfold f_M_make_L196
    try dsimp only
    rw [if_pos (show nD 0 < 0 by decide), fm_some, fm_Kr, ← fe]
    refine ⟨F, Z, ⟨by rw [s2, Nat.zero_add]; rfl, fun i hi => ?_⟩⟩
    have a := r3.2 i hi
    have b := r4.2 i hi
    have c := r5.2 i hi
    rw [Nat.zero_add] at a b c
    exact ⟨a, b, c⟩
