theorem fm_tt_mem {T : List fm_Ty} {i : Nat} (h : i < T.length) : fm_tt T i ∈ T := by
  unfold fm_tt
  rw [List.getD_eq_getElem?_getD, List.getElem?_eq_getElem h]
  exact List.getElem_mem h
theorem fre_ok {T : List fm_Ty} {W : Nat → Nat} (wt : wT T) (h0 : ∀ t, (fm_tt T t).1 ≠ 3 → W t = 0) : ∀ (t : Nat) (R : List fm_Ty), t ≤ T.length → (∀ x, x ∈ R → fm_ok x) → (∀ x, x ∈ fre T W t R → fm_ok x) ∧ (fre T W t R).length ≤ t + R.length := by
  intro t
  induction t with
  | zero => intro R _ h; exact ⟨h, by rw [Nat.zero_add]; exact Nat.le_refl _⟩
  | succ t ih =>
    intro R ht h
    by_cases q : (fm_tt T t).1 = 3 ∧ (fm_tt T t).2.2 ≤ W t
    · have e : fre T W (t + 1) R = fre T W t R := by
        show fre T W t (if _ then R else _) = _
        rw [if_pos q]
      rw [e]
      obtain ⟨a, b⟩ := ih R (by omega) h
      exact ⟨a, by omega⟩
    · have e : fre T W (t + 1) R = fre T W t (((fm_tt T t).1, (fm_tt T t).2.1, (fm_tt T t).2.2 - W t) :: R) := by
        show fre T W t (if _ then R else _) = _
        rw [if_neg q]
      rw [e]
      obtain ⟨a, b⟩ := ih (((fm_tt T t).1, (fm_tt T t).2.1, (fm_tt T t).2.2 - W t) :: R) (by omega) (fun x hx => by
        rcases List.mem_cons.mp hx with e | e
        · rw [e]
          obtain ⟨o1, o2⟩ := wt.2 t (by omega)
          refine ⟨o1, ?_⟩
          by_cases k : (fm_tt T t).1 = 3
          · refine Or.inr (Or.inr (Or.inr ⟨k, ?_⟩))
            have : ¬ (fm_tt T t).2.2 ≤ W t := fun z => q ⟨k, z⟩
            show 1 ≤ (fm_tt T t).2.2 - W t ∧ (fm_tt T t).2.2 - W t ≤ 9
            rcases o2 with ⟨z, _⟩ | ⟨z, _⟩ | ⟨z, _⟩ | ⟨_, z1, z2⟩
            · omega
            · omega
            · omega
            · omega
          · have w0 := h0 t k
            show ((fm_tt T t).1 = 0 ∧ (fm_tt T t).2.2 - W t = 0) ∨ ((fm_tt T t).1 = 1 ∧ (fm_tt T t).2.2 - W t < 12 ∧ (fm_tt T t).2.2 - W t ≠ (fm_tt T t).2.1) ∨ ((fm_tt T t).1 = 2 ∧ (fm_tt T t).2.2 - W t < 12) ∨ ((fm_tt T t).1 = 3 ∧ 1 ≤ (fm_tt T t).2.2 - W t ∧ (fm_tt T t).2.2 - W t ≤ 9)
            rw [w0, Nat.sub_zero]
            exact o2
        · exact h x e)
      rw [List.length_cons] at b
      exact ⟨a, by omega⟩
theorem fre_at {T : List fm_Ty} {W : Nat → Nat} : ∀ (t : Nat) (R : List fm_Ty), (fre T W t R).length = t + R.length → ∀ i, fm_tt (fre T W t R) i = if i < t then ((fm_tt T i).1, (fm_tt T i).2.1, (fm_tt T i).2.2 - W i) else fm_tt R (i - t) := by
  have len : ∀ (t : Nat) (R : List fm_Ty), (fre T W t R).length ≤ t + R.length := by
    intro t
    induction t with
    | zero => intro R; rw [Nat.zero_add]; exact Nat.le_refl _
    | succ t ih =>
      intro R
      show (fre T W t (if _ then R else _)).length ≤ _
      split
      · have := ih R; omega
      · have := ih (((fm_tt T t).1, (fm_tt T t).2.1, (fm_tt T t).2.2 - W t) :: R)
        rw [List.length_cons] at this
        omega
  intro t
  induction t with
  | zero => intro R _ i; rw [if_neg (Nat.not_lt_zero _)]; rfl
  | succ t ih =>
    intro R h i
    by_cases q : (fm_tt T t).1 = 3 ∧ (fm_tt T t).2.2 ≤ W t
    · have e : fre T W (t + 1) R = fre T W t R := by
        show fre T W t (if _ then R else _) = _
        rw [if_pos q]
      rw [e] at h
      have := len t R
      omega
    · have e : fre T W (t + 1) R = fre T W t (((fm_tt T t).1, (fm_tt T t).2.1, (fm_tt T t).2.2 - W t) :: R) := by
        show fre T W t (if _ then R else _) = _
        rw [if_neg q]
      rw [e] at h ⊢
      rw [ih _ (by rw [List.length_cons]; omega) i]
      by_cases c : i < t
      · rw [if_pos c, if_pos (by omega)]
      · rw [if_neg c]
        by_cases d : i = t
        · rw [if_pos (by omega), d, Nat.sub_self]; rfl
        · rw [if_neg (by omega), show i - t = (i - (t + 1)) + 1 by omega]; rfl
theorem fq_c {al jo al2 jo2 : Nat → Nat → Prop} {n m s : Nat} (ha : ∀ t p, t < m → (al t p ↔ al2 t p)) (hj : ∀ t p, t < m → (jo t p ↔ jo2 t p)) : ∀ (k p : Nat) (F : Nat → Prop), n - p ≤ k → (fq al jo n m s p F ↔ fq al2 jo2 n m s p F) := by
  intro k
  induction k with
  | zero => intro p F hk; exact ⟨fun _ => fq_end (by omega), fun _ => fq_end (by omega)⟩
  | succ k ih =>
    intro p F hk
    by_cases hp : p < n
    · rw [fq_st hp, fq_st hp, ih (p + 1) F (by omega)]
      constructor
      · rintro (z | ⟨b, t, t1, t2, (⟨z1, z2⟩ | ⟨z1, z2, z3⟩)⟩)
        · exact Or.inl z
        · exact Or.inr ⟨b, t, t1, t2, Or.inl ⟨(ha t p t1).mp z1, (ih _ _ (by omega)).mp z2⟩⟩
        · exact Or.inr ⟨b, t, t1, t2, Or.inr ⟨(hj t p t1).mp z1, z2, (ih _ _ (by omega)).mp z3⟩⟩
      · rintro (z | ⟨b, t, t1, t2, (⟨z1, z2⟩ | ⟨z1, z2, z3⟩)⟩)
        · exact Or.inl z
        · exact Or.inr ⟨b, t, t1, t2, Or.inl ⟨(ha t p t1).mpr z1, (ih _ _ (by omega)).mpr z2⟩⟩
        · exact Or.inr ⟨b, t, t1, t2, Or.inr ⟨(hj t p t1).mpr z1, z2, (ih _ _ (by omega)).mpr z3⟩⟩
    · exact ⟨fun _ => fq_end (by omega), fun _ => fq_end (by omega)⟩
theorem fre_can {T : List fm_Ty} {W : Nat → Nat} (h0 : ∀ t, (fm_tt T t).1 ≠ 3 → W t = 0) (hl : (fre T W T.length []).length = T.length) (L : fm_Li) (w : Nat) : fp_can (fre T W T.length []) L w = fp_can T L w := by
  have at0 : ∀ i, i < T.length → fm_tt (fre T W T.length []) i = ((fm_tt T i).1, (fm_tt T i).2.1, (fm_tt T i).2.2 - W i) := fun i hi => by rw [fre_at T.length [] (by simpa using hl) i, if_pos hi]
  funext s
  apply propext
  rw [fp_can_q, fp_can_q, hl]
  have pr : ∀ t p, t < T.length → (fp_pr (fre T W T.length []) L t p ↔ fp_pr T L t p) := fun t p ht => by
    unfold fp_pr
    rw [at0 t ht]
    by_cases k : (fm_tt T t).1 = 3
    · constructor
      · rintro (z | z)
        · exact Or.inl z
        · have := z.1; simp only at this; omega
      · rintro (z | z)
        · exact Or.inl z
        · have := z.1; omega
    · rw [h0 t k, Nat.sub_zero]
  have jn : ∀ t p, t < T.length → (fp_jn (fre T W T.length []) L t p ↔ fp_jn T L t p) := fun t p ht => by
    unfold fp_jn
    rw [at0 t ht]
    by_cases k : (fm_tt T t).1 = 3
    · exact ⟨fun z => by have := z.1; simp only at this; omega, fun z => by have := z.1; omega⟩
    · rw [h0 t k, Nat.sub_zero]
  refine fq_c (fun t p ht => ?_) (fun t p ht => ?_) L.1.length 0 _ (by omega)
  · unfold fp_al; rw [pr t p ht]
  · unfold fp_jo; rw [jn t p ht]
/-! the reference's wear -/
theorem fy_used {q : Int32 × fw_M} {T : List fm_Ty} {L : fm_Li} {w s : Nat} (wl : wL L) (t10 : T.length ≤ 10) (h6 : q.2.1 0 6 = nI L.1.length) (can : fp_can T L w s) (hv : ∀ i, i < L.1.length → q.2.1 14 i = fvl T L w s i) : fm_T (fw_wh (f_M_make_L85 q) fw_N (0, 0)) (fun r => ∃ U : Nat, U < 1024 ∧ r = nI U ∧ ∀ t, U.testBit t = true ↔ ∃ i, i < L.1.length ∧ s.testBit i = true ∧ fA T L w s 0 0 i = t) := by
  have l10 := wl.1
  obtain ⟨ok1, _⟩ := fA_ok L.1.length 0 0 (by omega) (fp_can_q.mp can)
  refine fm_up (P := fun p st => st.2 = nI p ∧ ∃ U : Nat, U < 1024 ∧ st.1 = nI U ∧ ∀ t, U.testBit t = true ↔ ∃ i, i < p ∧ s.testBit i = true ∧ fA T L w s 0 0 i = t) L.1.length ?_ ?_ 0 (Nat.zero_le _) ⟨rfl, 0, by omega, rfl, fun t => ⟨fun z => by simp at z, fun ⟨i, hi, _⟩ => absurd hi (Nat.not_lt_zero _)⟩⟩ (by omega)
  · rintro p ⟨x, y⟩ hp ⟨e1, U, U1, e2, U2⟩
    simp only at e1 e2
    subst e1 e2
    unfold f_M_make_L85
    try dsimp only
    rw [h6, if_neg (nI_ge hp (by omega)), fm_rd (by omega) (by omega), fm_bs, hv p hp]
    unfold fvl
    by_cases b : s.testBit p = true
    · obtain ⟨al, _⟩ := ok1 p (Nat.zero_le _) hp b
      rw [if_pos b, if_pos (nI_pos' (by omega)), fm_bs, fm_one (by omega), fm_bs, fm_nm, fm_nm, fm_some, fm_Kl, fm_or]
      refine ⟨nI_1 p, U ||| 2 ^ fA T L w s 0 0 p, fm_or_lt (m := 10) U1 (by omega), rfl, fun t => ?_⟩
      rw [fm_or_bit, Bool.or_eq_true, U2 t, decide_eq_true_eq]
      constructor
      · rintro (⟨i, i1, i2, i3⟩ | e)
        · exact ⟨i, by omega, i2, i3⟩
        · exact ⟨p, by omega, b, e.symm⟩
      · rintro ⟨i, i1, i2, i3⟩
        by_cases e : i = p
        · rw [e] at i3; exact Or.inr i3.symm
        · exact Or.inl ⟨i, by omega, i2, i3⟩
    · rw [if_neg b, if_neg (show ¬ (0 : Int32) ≤ -4 by decide), fm_bs, fm_nm, fm_nm, fm_some, fm_Kl, show (0 : Int32) = nI 0 from rfl, fm_or, Nat.or_zero]
      refine ⟨nI_1 p, U, U1, rfl, fun t => (U2 t).trans ⟨fun ⟨i, i1, i2⟩ => ⟨i, by omega, i2⟩, fun ⟨i, i1, i2, i3⟩ => ?_⟩⟩
      by_cases e : i = p
      · rw [e] at i2; exact absurd i2 b
      · exact ⟨i, by omega, i2, i3⟩
  · rintro ⟨x, y⟩ ⟨e1, U, U1, e2, U2⟩
    simp only at e1 e2
    subst e1 e2
    unfold f_M_make_L85
    try dsimp only
    rw [h6, if_pos (nI_le (Nat.le_refl _) (by omega)), fm_some, fm_Kr]
    exact ⟨U, U1, rfl, U2⟩
theorem fy_add {μ : fw_M} {T : List fm_Ty} {L : fm_Li} {w s n U : Nat} {v : Nat → Nat} (wt : wT T) (h0 : μ.1 0 0 = nI T.length) (h1 : ∀ i, i < T.length → μ.1 1 i = nI (fm_tt T i).1) (U1 : U < 1024) (U2 : ∀ t, U.testBit t = true ↔ ∃ i, i < L.1.length ∧ s.testBit i = true ∧ fA T L w s 0 0 i = t) (hv : ∀ t, t < T.length → μ.1 21 t = nI (v t)) : fm_T (fw_wh (f_M_make_L131 (nI n) (nI U)) fw_N (0, μ)) (fun ν => fm_F [21] μ ν ∧ ∀ t, t < T.length → ν.1 21 t = nI (v t + fw1 T L w n s L.1.length t)) := by
  have t10 := wt.1
  refine fm_up (P := fun t st => st.1 = nI t ∧ fm_F [21] μ st.2 ∧ (∀ x, x < t → st.2.1 21 x = nI (v x + fw1 T L w n s L.1.length x)) ∧ ∀ x, t ≤ x → st.2.1 21 x = μ.1 21 x) T.length ?_ ?_ 0 (Nat.zero_le _) ⟨rfl, fm_F.rf, fun x hx => absurd hx (Nat.not_lt_zero _), fun _ _ => rfl⟩ (by omega)
  · rintro t ⟨x, ν⟩ ht ⟨e1, F, a1, a2⟩
    simp only at e1 F a1 a2
    subst e1
    have c1 := (fm_ok_lt (wt.2 t ht)).1
    have k3 : nI (fm_tt T t).1 = 3 ↔ (fm_tt T t).1 = 3 := nI_eq (b := 3) (by omega) (by omega)
    have wx : ∀ z : Nat, z = fw1 T L w n s L.1.length t → fm_T ((fw_si 10 ν 21 (nI t) (nI (v t) + nI z)).bind fun μ176 => fw_nm (nI t + 1) fun (v177 : Int32) => (some (.inl (v177, μ176)) : Option ((Int32 × fw_M) ⊕ fw_M))) (fm_K (fun st => st.1 = nI (t + 1) ∧ fm_F [21] μ st.2 ∧ (∀ x, x < t + 1 → st.2.1 21 x = nI (v x + fw1 T L w n s L.1.length x)) ∧ ∀ x, t + 1 ≤ x → st.2.1 21 x = μ.1 21 x) (fun ν => fm_F [21] μ ν ∧ ∀ t, t < T.length → ν.1 21 t = nI (v t + fw1 T L w n s L.1.length t))) := fun z hz => by
      rw [fm_si (by omega) (by omega), fm_bs, fm_nm, fm_some, fm_Kl, nI_add, hz]
      refine ⟨nI_1 t, F.wr, fun x hx => ?_, fun x hx => by rw [fm_wr, if_neg (by omega)]; exact a2 x (by omega)⟩
      by_cases e : x = t
      · rw [e, fm_wr, if_pos ⟨rfl, rfl⟩]
      · rw [fm_wr, if_neg (fun y => e y.2)]; exact a1 x (by omega)
    unfold f_M_make_L131
    try dsimp only
    rw [F.at 0, h0, if_neg (nI_ge ht (by omega)), fm_rd (by omega) (by omega), fm_bs, a2 t (Nat.le_refl _), hv t ht, fm_bit1' (by omega) (by omega)]
    by_cases b : U.testBit t = true
    · rw [if_pos b, fm_rd (by omega) (by omega), fm_bs, F.at 1, h1 t ht]
      by_cases k : (fm_tt T t).1 = 3
      · rw [if_pos (k3.mpr k), fm_bs]
        exact wx n (fw1_y ⟨k, (U2 t).mp b⟩).symm
      · rw [if_neg (fun z => k (k3.mp z)), fm_bs]
        exact wx 0 (fw1_n (fun z => k z.1)).symm
    · rw [if_neg b, fm_bs]
      exact wx 0 (fw1_n (fun z => b ((U2 t).mpr z.2))).symm
  · rintro ⟨x, ν⟩ ⟨e1, F, a1, a2⟩
    simp only at e1 F a1 a2
    subst e1
    unfold f_M_make_L131
    try dsimp only
    rw [F.at 0, h0, if_pos (nI_le (Nat.le_refl _) (by omega)), fm_some, fm_Kr]
    exact ⟨F, a1⟩
theorem fy_wear {μ : fw_M} {T : List fm_Ty} {L : fm_Li} {w n : Nat} {P : List Nat} {q : Int32 × fw_M} (h : hM μ T L w) (wt : wT T) (wl : wL L) (hw : w ≤ 1) (hq : q.1 = nI P.length) (p10 : P.length ≤ 10) (hP : ∀ j, j < P.length → fp_can T L w (P.getD j 0) ∧ P.getD j 0 < 1024) (h17 : ∀ j, j < P.length → μ.1 17 j = nI (P.getD j 0)) (hz : ∀ t, t < T.length → μ.1 21 t = nI 0) : fm_T (fw_wh (f_M_make_L63 (nI n) q) fw_N (0, μ)) (fun ν => fm_F [12, 14, 21] μ ν ∧ ∀ t, t < T.length → ν.1 21 t = nI (fwr T L w n P t P.length)) := by
  have t10 := wt.1
  refine fm_up (P := fun k st => st.1 = nI k ∧ fm_F [12, 14, 21] μ st.2 ∧ ∀ t, t < T.length → st.2.1 21 t = nI (fwr T L w n P t k)) P.length ?_ ?_ 0 (Nat.zero_le _) ⟨rfl, fm_F.rf, fun t ht => hz t ht⟩ (by omega)
  · rintro k ⟨x, ν⟩ hk ⟨e1, F, a1⟩
    simp only at e1 F a1
    subst e1
    obtain ⟨can, plt⟩ := hP k hk
    have hν := h.c0 F
    unfold f_M_make_L63
    try dsimp only
    rw [hq, if_neg (nI_ge hk (by omega)), fm_rd (by omega) (by omega), fm_bs, F.at 17, h17 k hk, fm_bind]
    refine (fy_least (s := P.getD k 0) hν wt.w2 wl hw plt).mono ?_
    rintro ⟨r, ξ⟩ ⟨rfl, G, v1⟩
    simp only at G v1
    have FG : fm_F [12, 14, 21] μ ξ := F.tr G.up
    have hξ := h.c0 FG
    rw [fm_bind]
    refine (fy_used (q := (fB (fp_can T L w (P.getD k 0)), ξ)) wl t10 hξ.2.1.1.1 can (v1 can)).mono ?_
    rintro r ⟨U, U1, rfl, U2⟩
    rw [fm_bind]
    refine (fy_add (μ := ξ) (n := n) (v := fun t => fwr T L w n P t k) wt hξ.1.1 (fun i hi => (hξ.1.2 i hi).1) U1 U2 (fun t ht => by rw [G.at 21]; exact a1 t ht)).mono ?_
    intro ζ ⟨H, a2⟩
    rw [fm_nm, fm_some, fm_Kl]
    exact ⟨nI_1 k, FG.tr H.up, a2⟩
  · rintro ⟨x, ν⟩ ⟨e1, F, a1⟩
    simp only at e1 F a1
    subst e1
    unfold f_M_make_L63
    try dsimp only
    rw [hq, if_pos (nI_le (Nat.le_refl _) (by omega)), fm_some, fm_Kr]
    exact ⟨F, a1⟩
theorem fy_zero {μ : fw_M} {m : Nat} (h0 : μ.1 0 0 = nI m) (hm : m ≤ 10) : fm_T (fw_wh f_M_make_L40 fw_N (0, μ)) (fun ν => fm_F [21] μ ν ∧ ∀ t, t < m → ν.1 21 t = nI 0) := by
  refine fm_up (P := fun t st => st.1 = nI t ∧ fm_F [21] μ st.2 ∧ ∀ x, x < t → st.2.1 21 x = nI 0) m ?_ ?_ 0 (Nat.zero_le _) ⟨rfl, fm_F.rf, fun x hx => absurd hx (Nat.not_lt_zero _)⟩ (by omega)
  · rintro t ⟨x, ν⟩ ht ⟨e1, F, a1⟩
    simp only at e1 F a1
    subst e1
    unfold f_M_make_L40
    try dsimp only
    rw [F.at 0, h0, if_neg (nI_ge ht (by omega)), fm_si (by omega) (by omega), fm_bs, fm_nm, fm_some, fm_Kl]
    refine ⟨nI_1 t, F.wr, fun x hx => ?_⟩
    by_cases e : x = t
    · rw [e, fm_wr, if_pos ⟨rfl, rfl⟩]; rfl
    · rw [fm_wr, if_neg (fun y => e y.2)]; exact a1 x (by omega)
  · rintro ⟨x, ν⟩ ⟨e1, F, a1⟩
    simp only at e1 F a1
    subst e1
    unfold f_M_make_L40
    try dsimp only
    rw [F.at 0, h0, if_pos (nI_le (Nat.le_refl _) (by omega)), fm_some, fm_Kr]
    exact ⟨F, a1⟩
theorem fo_make : fw_O_make fm_I := by
  intro n μx μm hn hI a1
  have hI2 := hI.up
  obtain ⟨⟨C, wc, xs, ms, kp⟩, im, tp, sh, rk⟩ := hI
  have l2 : μm.1 0 6 = nI C.2.1.1.length := ms.2.1.1.1
  have l10 := wc.2.1.1
  have t10 := wc.1.1
  have hne : ¬ C.2.1.1.length = 0 → ¬ nI C.2.1.1.length = 0 := fun z => nI_ne0 (by omega) (by omega)
  unfold f_X_make f_M_make
  rw [fh_in (a := a1) (b := 1) (c := 99) (lo := 1) (hi := 99) rfl rfl]
  by_cases g : 1 ≤ a1 ∧ a1 ≤ 99
  · rw [fh_r1 g, if_pos g, fm_bs, if_neg fm_n10]
    by_cases n0 : C.2.1.1.length = 0
    · rw [fx_pulls0 xs n0, fm_bs, l2, n0, if_pos (show nI 0 = 0 from rfl), if_neg (show ¬ (0 : Int32) ≤ -2 by decide)]
      exact ⟨_, _, _, rfl, rfl, hI2⟩
    · obtain ⟨m, m1, m2, rfl⟩ := fh_cl (l := 1) (n := 99) rfl rfl (by omega) (by omega) g
      obtain ⟨k, hk, rkn⟩ := rk.n
      obtain ⟨⟨r, νx⟩, e1, f, f1, rfl, F, kp2, v8⟩ := fx_pulls (q := 8) wc xs kp (Or.inl ⟨rfl, rfl, rfl⟩) n0
      obtain ⟨⟨r2, νm⟩, e2, f2, e3, f3, G, Z, ⟨k2, kk, rk2⟩, hP⟩ := fy_plans (fm_hM ms) wc.1.w2 wc.2.1 wc.2.2.2.1.1 rkn (by omega)
      simp only at F kp2 v8 e3 G Z rk2 hP
      subst e3
      have := fp_few_un f1 f3
      subst this
      have f10 := fp_few_10 (fp_all_b wc.2.1 n0).2 f1
      rw [show f_X_pullsFor 8 μx = some (fp_ans f, νx) from e1, fm_bs, l2, if_neg (hne n0), e2, fm_bs]
      simp only
      have xs2 : xS 1 νx C := xs.cong (F.rg 1 31) wc.2.2.2.2.1.1
      have ms2 : mS νm.1 C := ms.cong (Z 0 (by decide)) (Z 6 (by decide)) (Z 8 (by decide)) (Z 9 (by decide)) (Z 11 (by decide)) (G.rg 1 9)
      by_cases f99 : f = 99
      · subst f99
        have I3 : fm_I (n + 1) νx νm := fm_mk wc xs2 ms2 kp2 im tp sh (rk2.k (by omega)) F G (Z 15 (by decide)) (Z 32 (by decide))
        rw [if_neg (show ¬ 0 ≤ fp_ans 99 by decide), if_neg (show ¬ nI 99 ≤ 98 by decide)]
        exact ⟨_, _, _, rfl, rfl, I3⟩
      · have ea : fp_ans f = nI f := by unfold fp_ans; rw [if_pos (by omega)]
        obtain ⟨P, P1, P2, P3⟩ := hP (by omega)
        have Q3 : ∀ i, i < f → νx.1 82 i = nI (P.getD i 0) := by
          rcases kp2.2 with z | ⟨f4, g1, g2, g3⟩
          · rw [v8] at z
            exact absurd z (fp_ans_ne (fp_all_b wc.2.1 n0).1 (fp_all_b wc.2.1 n0).2 f1)
          · have := fp_few_un f1 g1
            subst this
            obtain ⟨P5, Q1, Q2, Q3⟩ := g3 (by omega)
            have := fp_plan_un (by rw [P1, Q1]) P2 Q2
            subst this
            exact Q3
        subst P1
        clear hP
        have Pok : ∀ j, j < P.length → fp_can C.1 C.2.1 (C.2.2.2.1 0) (P.getD j 0) ∧ P.getD j 0 < 1024 := fun j hj => by
          obtain ⟨a, b⟩ := fp_plan_at P _ P2 j hj
          have := fs_le b
          have := (fp_all_b wc.2.1 n0).2
          exact ⟨a, by omega⟩
        obtain ⟨_, _, d1, d9⟩ := wc.2.2.2.1
        have rx : νx.1 9 2 = nI (C.2.2.2.1 2) := xs2.2.2.2.1 2 (by omega)
        rw [ea, if_pos (nI_pos' (by omega)), if_pos (show nI P.length ≤ 98 from (nI_leI (b := 98) (by omega) (by omega)).mpr (by omega)), show (fw_rd 3 (νx.1 9) 2) = some (νx.1 9 2) from fm_rd (j := 2) (by omega) (by omega), fm_bs, rx, fx_cut (by omega) (by omega) d1, fm_bs, fm_nmE]
        -- the class wears
        generalize hW : (fun t => fwr C.1 C.2.1 (C.2.2.2.1 0) m P t P.length) = W
        have Wlt : ∀ t, W t < 100000 := fun t => by
          rw [← hW]
          have := fwr_le (T := C.1) (L := C.2.1) (w := C.2.2.2.1 0) (n := m) (t := t) (P := P) P.length
          have h2 : m * P.length ≤ 99 * 10 := Nat.mul_le_mul m2 (by omega)
          show fwr C.1 C.2.1 (C.2.2.2.1 0) m P t P.length < 100000
          omega
        have W0 : ∀ t, (fm_tt C.1 t).1 ≠ 3 → W t = 0 := fun t h => by rw [← hW]; exact fwr_0 h _
        unfold f_X_wearSoap
        obtain ⟨x1, y1, F1, us, hPr, hN⟩ := fx_lockLine wc xs2
        obtain ⟨x2, y2, F2, v5⟩ := fx_wearL (n := m) (P := P) wc.1 wc.2.1 wc.2.2.2.1.1 hPr hN (cT xs2.1 F1) (by rw [F1.at 6]; exact xs2.2.1.1.1) Pok (by omega) (fun j hj => by rw [F1.at 82]; exact Q3 j hj)
        have F12 : fm_F [5, 65, 66, 67, 68, 83] νx x2 := (F1.up : fm_F [5, 65, 66, 67, 68, 83] νx x1).tr F2.up
        have s2 : x2.1 2 3 = nI C.1.length := by rw [F12.at 2]; exact xs2.1.1
        obtain ⟨x3, y3, F3, T3, kz⟩ := fx_drop (W := W) wc.1 Wlt W0 s2 (fun t ht => by rw [F12.at 3]; exact (xs2.1.2 t ht).1) (fun t ht => by rw [F12.at 4]; exact (xs2.1.2 t ht).2.1) (fun t ht => by rw [v5 t ht, ← hW])
        rw [y1, fm_bs, y2, fm_bs, s2, fm_nmE, show nI C.1.length - 1 = nD C.1.length from rfl, y3, fm_bs, fm_bs]
        -- the reference
        have hM2 := fm_hM ms2
        obtain ⟨z1, w1, G1, a0⟩ := fy_zero (μ := νm) hM2.1.1 t10
        obtain ⟨z2, w2, G2, a2⟩ := fy_wear (n := m) (P := P) (q := (nI P.length, νm)) (hM2.c0 G1) wc.1 wc.2.1 wc.2.2.2.1.1 rfl (by omega) Pok (fun j hj => by rw [G1.at 17]; exact P3 j hj) a0
        have G12 : fm_F [12, 14, 21] νm z2 := (G1.up : fm_F [12, 14, 21] νm z1).tr G2
        have T2 : rT (z2.1 0 0) (z2.1 1) (z2.1 2) (z2.1 3) C.1 := dT ms2.1 G12 (by rw [G12.at 0])
        obtain ⟨z3, w3, G3, Z3, T4⟩ := fy_drop (W := W) wc.1 Wlt W0 T2 (fun t ht => by rw [a2 t ht, ← hW])
        have rm : z3.1 5 2 = nI (C.2.2.2.1 2) := by rw [G3.at 5, G12.at 5]; exact ms2.2.2.2.1 2 (by omega)
        rw [w1, fm_bs, w2, fm_bs, T2.1, fm_nmE, show nI C.1.length - 1 = nD C.1.length from rfl, w3, fm_bs, show (fw_rd 3 (z3.1 5) 2) = some (z3.1 5 2) from fm_rd (j := 2) (by omega) (by omega), fm_bs, fm_bs, rm, nI_add, fm_pred (by omega), fm_dv (by omega) (by omega) (by omega), fm_bs]
        refine ⟨_, _, _, rfl, rfl, ?_⟩
        have FX : fm_F [2, 3, 4, 5, 65, 66, 67, 68, 70, 81, 82, 83] μx x3 := ((F.up : fm_F [2, 3, 4, 5, 65, 66, 67, 68, 70, 81, 82, 83] μx νx).tr F12.up).tr F3.up
        have GX : fm_F [0, 1, 2, 3, 12, 13, 14, 15, 16, 17, 21] μm z3 := ((G.up : fm_F [0, 1, 2, 3, 12, 13, 14, 15, 16, 17, 21] μm νm).tr G12.up).tr G3.up
        have ZX : ∀ j, j ≠ 0 → j ≠ 21 → z3.1 0 j = μm.1 0 j := fun j j0 j1 => by rw [Z3 j j0, G12.at 0, Z j j1]
        have ok := fre_ok (W := W) wc.1 W0 C.1.length [] (Nat.le_refl _) (fun x hx => by cases hx)
        have wT3 : wT (fre C.1 W C.1.length []) := ⟨by have := ok.2; simp at this; omega, fun i hi => ok.1 _ (fm_tt_mem hi)⟩
        refine fm_mk (C := (fre C.1 W C.1.length [], C.2)) ⟨wT3, wc.2⟩ ⟨T3, cL xs.2.1 FX, cW xs.2.2.1 FX, cR xs.2.2.2.1 FX, cX xs.2.2.2.2.1 FX wc.2.2.2.2.1.1 FX.c1, cJ xs.2.2.2.2.2 FX⟩ ⟨T4, dL ms.2.1 GX (ZX 6 (by decide) (by decide)) (ZX 8 (by decide) (by decide)), dW ms.2.2.1 GX, dR ms.2.2.2.1 GX, dX ms.2.2.2.2.1 GX (ZX 9 (by decide) (by decide)), dJ ms.2.2.2.2.2 GX (ZX 11 (by decide) (by decide))⟩ ?_ im tp sh ?_ FX GX (ZX 15 (by decide) (by decide)) (ZX 32 (by decide) (by decide))
        · rcases kz with kz | ⟨kz, kl⟩
          · exact fm_kept.none kz wc.2.2.2.2.1.1
          · have ec := fre_can W0 kl
            have k3 : fm_kept x3 C := kp2.cong (by rw [kz, F12.at 81]) (by rw [F3.at 82, F12.at 82])
            unfold fm_kept at k3 ⊢
            simp only [ec]
            exact k3
        · have r1 := rk2.up (l := 0) G12 (by rw [G12.at 0])
          exact (r1.up (l := 0) G3 (Z3 21 (by decide))).k (by omega)
  · rw [fh_r0 g, if_neg g, fm_bs, if_pos rfl]
    exact ⟨_, _, _, rfl, rfl, hI2⟩
