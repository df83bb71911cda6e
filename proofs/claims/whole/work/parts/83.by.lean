/-! THE LEAST WAY -/
def fZ (T : List fm_Ty) (L : fm_Li) (w s p u : Nat) : Prop := fq (fp_al T L w s) (fp_jo T L w s) L.1.length T.length s p (fu u)
def fmay (T : List fm_Ty) (L : fm_Li) (w s p u t : Nat) : Prop := t < T.length ∧ u.testBit t = false ∧ ((fp_al T L w s t p ∧ fZ T L w s (p + 1) (u ||| 2 ^ t)) ∨ (fp_jo T L w s t p ∧ fZ T L w s (p + 2) (u ||| 2 ^ t)))
theorem fZ_st {T : List fm_Ty} {L : fm_Li} {w s p u : Nat} (hp : p < L.1.length) : fZ T L w s p u ↔ (s.testBit p = false ∧ fZ T L w s (p + 1) u) ∨ (s.testBit p = true ∧ ∃ t, fmay T L w s p u t) := by
  unfold fZ fmay
  rw [fq_st hp]
  constructor
  · rintro (z | ⟨b, t, t1, t2, (⟨z1, z2⟩ | ⟨z1, z2, z3⟩)⟩)
    · exact Or.inl z
    · rw [fu_or] at z2; exact Or.inr ⟨b, t, t1, t2, Or.inl ⟨z1, z2⟩⟩
    · rw [fu_or] at z3; exact Or.inr ⟨b, t, t1, t2, Or.inr ⟨z1, z3⟩⟩
  · rintro (z | ⟨b, t, t1, t2, (⟨z1, z2⟩ | ⟨z1, z2⟩)⟩)
    · exact Or.inl z
    · refine Or.inr ⟨b, t, t1, t2, Or.inl ⟨z1, ?_⟩⟩
      rw [fu_or]; exact z2
    · refine Or.inr ⟨b, t, t1, t2, Or.inr ⟨z1, ?_, ?_⟩⟩
      · have := z1.2.1.1; omega
      · rw [fu_or]; exact z2
theorem fp_pr_k {T : List fm_Ty} {L : fm_Li} {t p : Nat} (h : fp_pr T L t p) : (fm_tt T t).1 ≠ 2 := by
  rcases h with h | h
  · exact h.1
  · have := h.1; omega
theorem fmay_k {T : List fm_Ty} {L : fm_Li} {w s p u t : Nat} (h : fmay T L w s p u t) : ((fm_tt T t).1 = 2 → fp_jo T L w s t p ∧ fZ T L w s (p + 2) (u ||| 2 ^ t)) ∧ ((fm_tt T t).1 ≠ 2 → fZ T L w s (p + 1) (u ||| 2 ^ t)) := by
  rcases h.2.2 with z | z
  · exact ⟨fun k => absurd k (fp_pr_k z.1.1), fun _ => z.2⟩
  · exact ⟨fun _ => z, fun k => absurd z.1.1.1 k⟩
noncomputable def flt (T : List fm_Ty) (L : fm_Li) (w s p u : Nat) : Nat := @dite _ (∃ t, fmay T L w s p u t) (Classical.propDecidable _) (fun h => Classical.choose (pk_least _ h)) (fun _ => 0)
theorem flt_s {T : List fm_Ty} {L : fm_Li} {w s p u : Nat} (h : ∃ t, fmay T L w s p u t) : fmay T L w s p u (flt T L w s p u) ∧ ∀ t, t < flt T L w s p u → ¬ fmay T L w s p u t := by
  unfold flt
  rw [dif_pos h]
  exact Classical.choose_spec (pk_least _ h)
theorem flt_e {T : List fm_Ty} {L : fm_Li} {w s p u t : Nat} (h : fmay T L w s p u t) (h2 : ∀ x, x < t → ¬ fmay T L w s p u x) : flt T L w s p u = t := by
  obtain ⟨a, b⟩ := flt_s ⟨t, h⟩
  by_cases q : flt T L w s p u < t
  · exact absurd a (h2 _ q)
  · by_cases r : t < flt T L w s p u
    · exact absurd h (b _ r)
    · omega
noncomputable def fas (T : List fm_Ty) (L : fm_Li) (w s : Nat) : Nat → Nat → Nat → Nat → Nat
  | 0, _, _, _ => 0
  | 1, p, u, _ => flt T L w s p u
  | k + 2, p, u, i => if s.testBit p = true then (if i = p then flt T L w s p u else if (fm_tt T (flt T L w s p u)).1 = 2 then (if i = p + 1 then flt T L w s p u else fas T L w s k (p + 2) (u ||| 2 ^ flt T L w s p u) i) else fas T L w s (k + 1) (p + 1) (u ||| 2 ^ flt T L w s p u) i) else fas T L w s (k + 1) (p + 1) u i
/-- the type of place i, from p on, when u are used -/
noncomputable def fA (T : List fm_Ty) (L : fm_Li) (w s p u i : Nat) : Nat := fas T L w s (L.1.length - p) p u i
theorem fA_skip {T : List fm_Ty} {L : fm_Li} {w s p u i : Nat} (b : ¬ s.testBit p = true) (h1 : p < i) (h2 : i < L.1.length) : fA T L w s p u i = fA T L w s (p + 1) u i := by
  unfold fA
  obtain ⟨k, hk⟩ : ∃ k, L.1.length - p = k + 2 := ⟨L.1.length - p - 2, by omega⟩
  rw [hk, show L.1.length - (p + 1) = k + 1 by omega, fas, if_neg b]
theorem fA_self {T : List fm_Ty} {L : fm_Li} {w s p u : Nat} (b : s.testBit p = true) (h2 : p < L.1.length) : fA T L w s p u p = flt T L w s p u := by
  unfold fA
  by_cases e : L.1.length - p = 1
  · rw [e, fas]
  · obtain ⟨k, hk⟩ : ∃ k, L.1.length - p = k + 2 := ⟨L.1.length - p - 2, by omega⟩
    rw [hk, fas, if_pos b, if_pos rfl]
theorem fA_al {T : List fm_Ty} {L : fm_Li} {w s p u i : Nat} (b : s.testBit p = true) (c : (fm_tt T (flt T L w s p u)).1 ≠ 2) (h1 : p < i) (h2 : i < L.1.length) : fA T L w s p u i = fA T L w s (p + 1) (u ||| 2 ^ flt T L w s p u) i := by
  unfold fA
  obtain ⟨k, hk⟩ : ∃ k, L.1.length - p = k + 2 := ⟨L.1.length - p - 2, by omega⟩
  rw [hk, show L.1.length - (p + 1) = k + 1 by omega, fas, if_pos b, if_neg (by omega), if_neg c]
theorem fA_j1 {T : List fm_Ty} {L : fm_Li} {w s p u : Nat} (b : s.testBit p = true) (c : (fm_tt T (flt T L w s p u)).1 = 2) (h2 : p + 1 < L.1.length) : fA T L w s p u (p + 1) = flt T L w s p u := by
  unfold fA
  obtain ⟨k, hk⟩ : ∃ k, L.1.length - p = k + 2 := ⟨L.1.length - p - 2, by omega⟩
  rw [hk, fas, if_pos b, if_neg (by omega), if_pos c, if_pos rfl]
theorem fA_j2 {T : List fm_Ty} {L : fm_Li} {w s p u i : Nat} (b : s.testBit p = true) (c : (fm_tt T (flt T L w s p u)).1 = 2) (h1 : p + 1 < i) (h2 : i < L.1.length) : fA T L w s p u i = fA T L w s (p + 2) (u ||| 2 ^ flt T L w s p u) i := by
  unfold fA
  obtain ⟨k, hk⟩ : ∃ k, L.1.length - p = k + 2 := ⟨L.1.length - p - 2, by omega⟩
  rw [hk, show L.1.length - (p + 2) = k by omega, fas, if_pos b, if_neg (by omega), if_pos c, if_neg (by omega)]
/-- each is a free type; two places of one type are of a joined one -/
theorem fA_ok {T : List fm_Ty} {L : fm_Li} {w s : Nat} : ∀ (k p u : Nat), L.1.length - p ≤ k → fZ T L w s p u → (∀ i, p ≤ i → i < L.1.length → s.testBit i = true → fA T L w s p u i < T.length ∧ u.testBit (fA T L w s p u i) = false) ∧ ∀ i j, p ≤ i → i < j → j < L.1.length → s.testBit i = true → s.testBit j = true → fA T L w s p u i = fA T L w s p u j → (fm_tt T (fA T L w s p u i)).1 = 2 := by
  intro k
  induction k with
  | zero => intro p u hk _; exact ⟨fun i h1 h2 => by omega, fun i j h1 h2 h3 => by omega⟩
  | succ k ih =>
    intro p u hk h
    by_cases hp : p < L.1.length
    · rcases (fZ_st hp).mp h with ⟨b, h1⟩ | ⟨b, ex⟩
      · have b0 : ¬ s.testBit p = true := by rw [b]; decide
        obtain ⟨a1, a2⟩ := ih (p + 1) u (by omega) h1
        have ne : ∀ i, p ≤ i → s.testBit i = true → p < i := fun i q1 q2 => by
          by_cases e : i = p
          · rw [e, b] at q2; cases q2
          · omega
        refine ⟨fun i q1 q2 q3 => ?_, fun i j q1 q2 q3 q4 q5 q6 => ?_⟩
        · rw [fA_skip b0 (ne i q1 q3) q2]; exact a1 i (ne i q1 q3) q2 q3
        · have n1 := ne i q1 q4
          rw [fA_skip b0 n1 (by omega)] at q6 ⊢
          rw [fA_skip b0 (by omega) q3] at q6
          exact a2 i j n1 q2 q3 q4 q5 q6
      · obtain ⟨m1, m2⟩ := flt_s ex
        obtain ⟨k1, k2⟩ := fmay_k m1
        have notu : ∀ x, (u ||| 2 ^ flt T L w s p u).testBit x = false → u.testBit x = false ∧ x ≠ flt T L w s p u := fun x hx => by
          rw [fm_or_bit, Bool.or_eq_false_iff] at hx
          exact ⟨hx.1, of_decide_eq_false hx.2⟩
        by_cases c : (fm_tt T (flt T L w s p u)).1 = 2
        · obtain ⟨j1, j2⟩ := k1 c
          have hp1 := j1.2.1.1
          obtain ⟨a1, a2⟩ := ih (p + 2) _ (by omega) j2
          refine ⟨fun i q1 q2 q3 => ?_, fun i j q1 q2 q3 q4 q5 q6 => ?_⟩
          · by_cases e : i = p
            · rw [e, fA_self b hp]; exact ⟨m1.1, m1.2.1⟩
            · by_cases e2 : i = p + 1
              · rw [e2, fA_j1 b c hp1]; exact ⟨m1.1, m1.2.1⟩
              · rw [fA_j2 b c (by omega) q2]
                obtain ⟨z1, z2⟩ := a1 i (by omega) q2 q3
                exact ⟨z1, (notu _ z2).1⟩
          · by_cases e : i = p
            · rw [e, fA_self b hp]; exact c
            · by_cases e2 : i = p + 1
              · rw [e2, fA_j1 b c hp1]; exact c
              · rw [fA_j2 b c (by omega) (by omega)] at q6 ⊢
                rw [fA_j2 b c (by omega) q3] at q6
                exact a2 i j (by omega) q2 q3 q4 q5 q6
        · have j2 := k2 c
          obtain ⟨a1, a2⟩ := ih (p + 1) _ (by omega) j2
          refine ⟨fun i q1 q2 q3 => ?_, fun i j q1 q2 q3 q4 q5 q6 => ?_⟩
          · by_cases e : i = p
            · rw [e, fA_self b hp]; exact ⟨m1.1, m1.2.1⟩
            · rw [fA_al b c (by omega) q2]
              obtain ⟨z1, z2⟩ := a1 i (by omega) q2 q3
              exact ⟨z1, (notu _ z2).1⟩
          · by_cases e : i = p
            · exfalso
              rw [e, fA_self b hp, fA_al b c (by omega) q3] at q6
              exact (notu _ (a1 j (by omega) q3 q5).2).2 q6.symm
            · rw [fA_al b c (by omega) (by omega)] at q6 ⊢
              rw [fA_al b c (by omega) q3] at q6
              exact a2 i j (by omega) q2 q3 q4 q5 q6
    · exact ⟨fun i h1 h2 => by omega, fun i j h1 h2 h3 => by omega⟩
/-! the reference -/
def yR (ν : fw_M) (T : List fm_Ty) (L : fm_Li) (w s q : Nat) : Prop := ∀ v, v < 2 ^ T.length → ν.1 12 (1024 * q + v) = fB (fZ T L w s q v)
theorem fy_mayBy {μ : fw_M} {T : List fm_Ty} {L : fm_Li} {w s p u t : Nat} (h : hM μ T L w) (wt : wT2 T) (wl : wL L) (hw : w ≤ 1) (hs : s < 1024) (hp : p < L.1.length) (ht : t < T.length) (hu : u < 2 ^ T.length) (r1 : yR μ T L w s (p + 1)) (r2 : p + 2 ≤ L.1.length → yR μ T L w s (p + 2)) : f_M_mayBy (nI t) (nI p) (nI s) (nI u) μ = some (fB (fmay T L w s p u t)) := by
  have t10 := wt.1
  have l10 := wl.1
  have p10 : 2 ^ T.length ≤ 1024 := fm_pow8 (n := 10) t10
  unfold f_M_mayBy
  rw [fm_bit1' (by omega) (by omega)]
  by_cases b : u.testBit t = true
  · rw [if_pos b, fB0 (fun z => by have := z.2.1; rw [b] at this; cases this)]
  · have b0 : u.testBit t = false := by simpa using b
    have hu2 := fm_or_lt (t := t) hu ht
    rw [if_neg b, fm_nmE, fm_one (by omega), fm_or, fy_prints h wt wl ht hp, fm_bs, fy_close h wl hw (by omega) hs, fm_bs, nI_1, show (1024 : Int32) = nI 1024 from rfl, pk_mul, nI_add, fm_rd (by omega) (by omega), fm_bs, r1 _ hu2, fy_joins h wt wl ht hp hs, fm_bs, fy_close h wl hw (by omega) hs, fm_bs, show (2 : Int32) = nI 2 from rfl, nI_add, pk_mul, nI_add]
    have s1 : (if fB (fp_pr T L t p) = 0 then (some 0 : Option Int32) else if fB (fp_cl L w s p) = 0 then if fB (fZ T L w s (p + 1) (u ||| 2 ^ t)) = 0 then some 0 else some 1 else some 0) = some (fB (fp_al T L w s t p ∧ fZ T L w s (p + 1) (u ||| 2 ^ t))) := by
      by_cases c1 : fp_pr T L t p
      · rw [fB1 c1, if_neg fm_n10]
        by_cases c2 : fp_cl L w s p
        · rw [fB1 c2, if_neg fm_n10, fB0 (fun z => z.1.2 c2)]
        · rw [fB0 c2, if_pos rfl]
          by_cases c3 : fZ T L w s (p + 1) (u ||| 2 ^ t)
          · rw [fB1 c3, if_neg fm_n10, fB1 ⟨⟨c1, c2⟩, c3⟩]
          · rw [fB0 c3, if_pos rfl, fB0 (fun z => c3 z.2)]
      · rw [fB0 c1, if_pos rfl, fB0 (fun z => c1 z.1.1)]
    rw [s1, fm_bs]
    have s2 : (if fB (fp_al T L w s t p ∧ fZ T L w s (p + 1) (u ||| 2 ^ t)) = 0 then if fB (fp_jn T L t p ∧ fp_bs L p ∧ s.testBit (p + 1) = true) = 0 then (some 0 : Option Int32) else if fB (fp_cl L w s (p + 1)) = 0 then (fw_rd 11264 (μ.1 12) (nI (1024 * (p + 2) + (u ||| 2 ^ t)))).bind fun v103 => if v103 = 0 then some 0 else some 1 else some 0 else some 1) = some (fB (fmay T L w s p u t)) := by
      by_cases c0 : fp_al T L w s t p ∧ fZ T L w s (p + 1) (u ||| 2 ^ t)
      · rw [fB1 c0, if_neg fm_n10, fB1 (show fmay T L w s p u t from ⟨ht, b0, Or.inl c0⟩)]
      · rw [fB0 c0, if_pos rfl]
        by_cases c1 : fp_jn T L t p ∧ fp_bs L p ∧ s.testBit (p + 1) = true
        · rw [fB1 c1, if_neg fm_n10]
          have hp2 := c1.2.1.1
          by_cases c2 : fp_cl L w s (p + 1)
          · rw [fB1 c2, if_neg fm_n10, fB0 (fun z => z.2.2.elim c0 (fun y => (fp_jo_iff.mp y.1).2 c2))]
          · rw [fB0 c2, if_pos rfl, fm_rd (by omega) (by omega), fm_bs, r2 (by omega) _ hu2]
            by_cases c3 : fZ T L w s (p + 2) (u ||| 2 ^ t)
            · rw [fB1 c3, if_neg fm_n10, fB1 (show fmay T L w s p u t from ⟨ht, b0, Or.inr ⟨fp_jo_iff.mpr ⟨c1, c2⟩, c3⟩⟩)]
            · rw [fB0 c3, if_pos rfl, fB0 (fun z => z.2.2.elim c0 (fun y => c3 y.2))]
        · rw [fB0 c1, if_pos rfl, fB0 (fun z => z.2.2.elim c0 (fun y => c1 (fp_jo_iff.mp y.1).1))]
    rw [s2, fm_bs, fBz, fm_bs]
theorem yR.cong {μ ν : fw_M} {T : List fm_Ty} {L : fm_Li} {w s q : Nat} (h : yR μ T L w s q) (t10 : T.length ≤ 10) (e : ∀ j, 1024 * q ≤ j → j < 1024 * q + 1024 → ν.1 12 j = μ.1 12 j) : yR ν T L w s q := fun v hv => by
  have p10 : 2 ^ T.length ≤ 1024 := fm_pow8 (n := 10) t10
  rw [e _ (by omega) (by omega)]
  exact h v hv
theorem fy_looks {μ : fw_M} {T : List fm_Ty} {L : fm_Li} {w s : Nat} (h : hM μ T L w) (wt : wT2 T) (wl : wL L) (hw : w ≤ 1) (hs : s < 1024) : fm_T (f_M_looks (nI s) μ) (fun ν => fm_F [12] μ ν ∧ ∀ q, q ≤ L.1.length → yR ν T L w s q) := by
  have t10 := wt.1
  have l10 := wl.1
  have p10 : 2 ^ T.length ≤ 1024 := fm_pow8 (n := 10) t10
  have p1 : 1 ≤ 2 ^ T.length := Nat.one_le_two_pow
  unfold f_M_looks
  rw [h.1.1, fm_one (by omega), fm_nm, fm_bind]
  refine (fm_up (P := fun u st => st.1 = nI u ∧ fm_F [12] μ st.2 ∧ ∀ v, v < u → st.2.1 12 (1024 * L.1.length + v) = 1) (Q := fun ν => fm_F [12] μ ν ∧ yR ν T L w s L.1.length) (2 ^ T.length) ?_ ?_ 0 (Nat.zero_le _) ⟨rfl, fm_F.rf, fun v hv => absurd hv (Nat.not_lt_zero _)⟩ (by omega)).mono ?_
  · rintro u ⟨x, ν⟩ hu ⟨e1, F, a1⟩
    simp only at e1 F a1
    subst e1
    unfold f_M_looks_L9
    try dsimp only
    rw [if_neg (nI_ge hu (by omega)), F.at 0, h.2.1.1.1, show (1024 : Int32) = nI 1024 from rfl, pk_mul, nI_add, fm_sz1 (by omega) (by omega), fm_bs, fm_nm, fm_some, fm_Kl]
    refine ⟨nI_1 u, F.wr, fun v hv => ?_⟩
    by_cases e : v = u
    · rw [fm_wr, if_pos ⟨rfl, by omega⟩]
    · rw [fm_wr, if_neg (by omega)]; exact a1 v (by omega)
  · rintro ⟨x, ν⟩ ⟨e1, F, a1⟩
    simp only at e1 F a1
    subst e1
    unfold f_M_looks_L9
    try dsimp only
    rw [if_pos (nI_le (Nat.le_refl _) (by omega)), fm_some, fm_Kr]
    exact ⟨F, fun v hv => by rw [a1 v hv, fB1 (show fZ T L w s L.1.length v from fq_end (Nat.le_refl _))]⟩
  · intro ν0 ⟨F0, r0⟩
    rw [F0.at 0, h.2.1.1.1, show nI L.1.length - 1 = nD L.1.length from rfl, fm_nm, fm_bind]
    refine fm_dn (P := fun p st => st.1 = nD p ∧ p ≤ L.1.length ∧ fm_F [12] μ st.2 ∧ ∀ q, p ≤ q → q ≤ L.1.length → yR st.2 T L w s q) ?_ ?_ L.1.length ⟨rfl, Nat.le_refl _, F0, fun q q1 q2 => by rw [show q = L.1.length by omega]; exact r0⟩ (by omega)
    · rintro p ⟨x, ν⟩ ⟨e1, hp, F, rr⟩
      simp only at e1 F rr
      subst e1
      unfold f_M_looks_L43
      try dsimp only
      rw [nD_s, if_neg (nI_pos (by omega)), fm_bind]
      refine (fm_up (P := fun u st => st.1 = nI u ∧ fm_F [12] μ st.2 ∧ (∀ j, 1024 * (p + 1) ≤ j → st.2.1 12 j = ν.1 12 j) ∧ ∀ v, v < u → st.2.1 12 (1024 * p + v) = fB (fZ T L w s p v)) (Q := fun ξ => fm_F [12] μ ξ ∧ (∀ j, 1024 * (p + 1) ≤ j → ξ.1 12 j = ν.1 12 j) ∧ yR ξ T L w s p) (2 ^ T.length) ?_ ?_ 0 (Nat.zero_le _) ⟨rfl, F, fun _ _ => rfl, fun v hv => absurd hv (Nat.not_lt_zero _)⟩ (by omega)).mono ?_
      · rintro u ⟨x, ξ⟩ hu ⟨e1, G, g1, g2⟩
        simp only at e1 G g1 g2
        subst e1
        have hξ := h.c0 G
        have r1 : yR ξ T L w s (p + 1) := (rr (p + 1) (by omega) (by omega)).cong t10 (fun j j1 _ => g1 j j1)
        have r2 : p + 2 ≤ L.1.length → yR ξ T L w s (p + 2) := fun q => (rr (p + 2) (by omega) q).cong t10 (fun j j1 _ => g1 j (by omega))
        have zs := fZ_st (T := T) (L := L) (w := w) (s := s) (p := p) (u := u) (by omega)
        have fin : fm_T ((fw_sz 11264 ξ 12 (1024 * nI p + nI u) (fB (fZ T L w s p u))).bind fun μ147 => fw_nm (nI u + 1) fun (v148 : Int32) => (some (.inl (v148, μ147)) : Option ((Int32 × fw_M) ⊕ fw_M))) (fm_K (fun st => st.1 = nI (u + 1) ∧ fm_F [12] μ st.2 ∧ (∀ j, 1024 * (p + 1) ≤ j → st.2.1 12 j = ν.1 12 j) ∧ ∀ v, v < u + 1 → st.2.1 12 (1024 * p + v) = fB (fZ T L w s p v)) (fun ξ => fm_F [12] μ ξ ∧ (∀ j, 1024 * (p + 1) ≤ j → ξ.1 12 j = ν.1 12 j) ∧ yR ξ T L w s p)) := by
          rw [show (1024 : Int32) = nI 1024 from rfl, pk_mul, nI_add, fm_sz (by omega) (by omega), fm_bs, fm_nm, fm_some, fm_Kl]
          refine ⟨nI_1 u, G.wr, fun j hj => by rw [fm_wr, if_neg (by omega)]; exact g1 j hj, fun v hv => ?_⟩
          by_cases e : v = u
          · rw [e, fm_wr, if_pos ⟨rfl, rfl⟩]
          · rw [fm_wr, if_neg (by omega)]; exact g2 v (by omega)
        unfold f_M_looks_L50
        try dsimp only
        rw [if_neg (nI_ge hu (by omega)), fm_bit0' (by omega) (by omega), nI_1]
        by_cases b : s.testBit p = true
        · rw [if_pos b, fm_bs, fm_bind]
          refine (fm_up (P := fun t st => st = (fB (∃ x, x < t ∧ fmay T L w s p u x), nI t) ) (Q := fun r => r = fB (fZ T L w s p u)) T.length ?_ ?_ 0 (Nat.zero_le _) (by rw [fB0 (fun ⟨x, hx, _⟩ => absurd hx (Nat.not_lt_zero _))]; rfl) (by omega)).mono ?_
          · rintro t _ ht rfl
            unfold f_M_looks_L92
            try dsimp only
            rw [hξ.1.1, if_neg (nI_ge ht (by omega)), fm_bit1' (by omega) (by omega), if_pos b]
            by_cases c : ∃ x, x < t ∧ fmay T L w s p u x
            · obtain ⟨x, x1, x2⟩ := c
              rw [fB1 ⟨x, x1, x2⟩, if_neg fm_n10, fm_some, fm_Kr, fB1 (zs.mpr (Or.inr ⟨b, x, x2⟩))]
            · rw [fB0 c, if_pos rfl, fy_mayBy hξ wt wl hw hs (by omega) ht hu r1 r2, fm_bs, fm_nm, fm_some, fm_Kl, nI_1]
              rw [fBi (show fmay T L w s p u t ↔ ∃ x, x < t + 1 ∧ fmay T L w s p u x from ⟨fun z => ⟨t, by omega, z⟩, fun ⟨x, x1, x2⟩ => by
                by_cases e : x = t
                · rw [← e]; exact x2
                · exact absurd ⟨x, by omega, x2⟩ c⟩)]
          · rintro _ rfl
            unfold f_M_looks_L92
            try dsimp only
            rw [hξ.1.1, if_pos (nI_le (Nat.le_refl _) (by omega)), fm_some, fm_Kr]
            apply fBi
            rw [zs]
            exact ⟨fun ⟨x, _, x2⟩ => Or.inr ⟨b, x, x2⟩, fun z => z.elim (fun y => by rw [b] at y; cases y.1) (fun ⟨_, x, x2⟩ => ⟨x, x2.1, x2⟩)⟩
          · rintro r rfl
            exact fin
        · have b0 : s.testBit p = false := by simpa using b
          rw [if_neg b, show (1024 : Int32) = nI 1024 from rfl, pk_mul, nI_add, fm_rd (by omega) (by omega), fm_bs, r1 _ hu]
          have s1 : (if fB (fZ T L w s (p + 1) u) = 0 then (some 0 : Option Int32) else some 1) = some (fB (fZ T L w s p u)) := by
            by_cases c : fZ T L w s (p + 1) u
            · rw [fB1 c, if_neg fm_n10, fB1 (zs.mpr (Or.inl ⟨b0, c⟩))]
            · rw [fB0 c, if_pos rfl, fB0 (fun z => (zs.mp z).elim (fun y => c y.2) (fun y => b y.1))]
          rw [s1, fm_bs]
          have lp : fw_wh (f_M_looks_L92 (nI s) (nI p) (nI u) ξ) fw_N (fB (fZ T L w s p u), 0) = some (fB (fZ T L w s p u)) := by
            apply fm_eq
            refine fm_wh (P := fun i st => st = (fB (fZ T L w s p u), 0)) ?_ (i := 0) rfl (by omega)
            rintro i _ rfl
            unfold f_M_looks_L92
            try dsimp only
            by_cases e : T.length = 0
            · rw [hξ.1.1, e, if_pos (show nI 0 ≤ 0 by decide), fm_some, fm_Kr]
            · rw [hξ.1.1, if_neg (show ¬ nI T.length ≤ 0 from nI_nle (by omega) (by omega)), fm_bit1' (by omega) (by omega), if_neg b, fm_some, fm_Kr]
          rw [lp, fm_bs]
          exact fin
      · rintro ⟨x, ξ⟩ ⟨e1, G, g1, g2⟩
        simp only at e1 G g1 g2
        subst e1
        unfold f_M_looks_L50
        try dsimp only
        rw [if_pos (nI_le (Nat.le_refl _) (by omega)), fm_some, fm_Kr]
        exact ⟨G, g1, g2⟩
      · intro ξ ⟨G, g1, g2⟩
        rw [fm_nm, nD_m, fm_some, fm_Kl]
        refine ⟨rfl, by omega, G, fun q q1 q2 => ?_⟩
        by_cases e : q = p
        · rw [e]; exact g2
        · exact (rr q (by omega) q2).cong t10 (fun j j1 _ => g1 j (by omega))
    · rintro ⟨x, ν⟩ ⟨e1, hp, F, rr⟩
      simp only at e1 F rr
      subst e1
      unfold f_M_looks_L43
      try dsimp only
      rw [if_pos (show nD 0 < 0 by decide), fm_some, fm_Kr, fm_some]
      exact ⟨F, fun q q1 => rr q (Nat.zero_le _) q1⟩
