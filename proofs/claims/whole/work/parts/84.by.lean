/-- what the least way leaves at place i -/
noncomputable def fvl (T : List fm_Ty) (L : fm_Li) (w s i : Nat) : Int32 := if s.testBit i = true then nI (fA T L w s 0 0 i) else -4
theorem fy_lt {μ : fw_M} {T : List fm_Ty} {L : fm_Li} {w s p u : Nat} (h : hM μ T L w) (wt : wT2 T) (wl : wL L) (hw : w ≤ 1) (hs : s < 1024) (hp : p < L.1.length) (hu : u < 2 ^ T.length) (r1 : yR μ T L w s (p + 1)) (r2 : p + 2 ≤ L.1.length → yR μ T L w s (p + 2)) (ex : ∃ t, fmay T L w s p u t) : fw_wh (f_M_least_L73 (nI s) (nI u) (nI p) μ) fw_N 0 = some (nI (flt T L w s p u)) := by
  have t10 := wt.1
  obtain ⟨m1, m2⟩ := flt_s ex
  have ml := m1.1
  apply fm_eq
  refine fm_wh (P := fun i st => ∃ t, t ≤ flt T L w s p u ∧ i = flt T L w s p u - t ∧ st = nI t) ?_ (i := flt T L w s p u) ⟨0, Nat.zero_le _, rfl, rfl⟩ (by omega)
  rintro i _ ⟨t, ht, rfl, rfl⟩
  unfold f_M_least_L73
  rw [fy_mayBy h wt wl hw hs hp (by omega) hu r1 r2, fm_bs]
  by_cases e : t = flt T L w s p u
  · rw [e, fB1 m1, if_neg fm_n10, fm_some, fm_Kr]
  · rw [fB0 (m2 t (by omega)), if_pos rfl, fm_nm, fm_some, fm_Kl]
    exact ⟨flt T L w s p u - (t + 1), by omega, t + 1, by omega, rfl, nI_1 t⟩
theorem fy_least {μ : fw_M} {T : List fm_Ty} {L : fm_Li} {w s : Nat} (h : hM μ T L w) (wt : wT2 T) (wl : wL L) (hw : w ≤ 1) (hs : s < 1024) : fm_T (f_M_least (nI s) μ) (fun p => p.1 = fB (fp_can T L w s) ∧ fm_F [12, 14] μ p.2 ∧ (fp_can T L w s → ∀ i, i < L.1.length → p.2.1 14 i = fvl T L w s i)) := by
  have t10 := wt.1
  have l10 := wl.1
  have p10 : 2 ^ T.length ≤ 1024 := fm_pow8 (n := 10) t10
  have p1 : 1 ≤ 2 ^ T.length := Nat.one_le_two_pow
  unfold f_M_least
  rw [fm_bind]
  refine (fy_looks h wt wl hw hs).mono ?_
  intro ν0 ⟨F0, rr⟩
  have e0 : ν0.1 12 0 = fB (fp_can T L w s) := by
    have := rr 0 (Nat.zero_le _) 0 (by omega)
    rw [show 1024 * 0 + 0 = 0 from rfl] at this
    rw [this]
    exact fBi fp_can_q.symm
  rw [show (fw_rd 11264 (ν0.1 12) 0) = some (ν0.1 12 0) from fm_rd (j := 0) (by omega) (by omega), fm_bs, e0]
  by_cases can : fp_can T L w s
  · rw [fB1 can, if_neg fm_n10, fm_bind]
    refine (fm_up (P := fun p st => st.1 = nI p ∧ fm_F [14] ν0 st.2 ∧ ∀ i, i < p → st.2.1 14 i = -4) (Q := fun ν => fm_F [14] ν0 ν ∧ ∀ i, i < L.1.length → ν.1 14 i = -4) L.1.length ?_ ?_ 0 (Nat.zero_le _) ⟨rfl, fm_F.rf, fun i hi => absurd hi (Nat.not_lt_zero _)⟩ (by omega)).mono ?_
    · rintro p ⟨x, ν⟩ hp ⟨e1, F, a1⟩
      simp only at e1 F a1
      subst e1
      unfold f_M_least_L20
      try dsimp only
      rw [F.at 0, F0.at 0, h.2.1.1.1, if_neg (nI_ge hp (by omega)), fm_si (by omega) (by omega), fm_bs, fm_nm, fm_some, fm_Kl]
      refine ⟨nI_1 p, F.wr, fun i hi => ?_⟩
      by_cases e : i = p
      · rw [fm_wr, if_pos ⟨rfl, e⟩]
      · rw [fm_wr, if_neg (fun z => e z.2)]; exact a1 i (by omega)
    · rintro ⟨x, ν⟩ ⟨e1, F, a1⟩
      simp only at e1 F a1
      subst e1
      unfold f_M_least_L20
      try dsimp only
      rw [F.at 0, F0.at 0, h.2.1.1.1, if_pos (nI_le (Nat.le_refl _) (by omega)), fm_some, fm_Kr]
      exact ⟨F, a1⟩
    · intro ν1 ⟨F1, a0⟩
      rw [fm_bind]
      have h1 : hM ν1 T L w := h.c0 ((F0.up : fm_F [12, 14] μ ν0).tr F1.up)
      have rr1 : ∀ q, q ≤ L.1.length → yR ν1 T L w s q := fun q hq => (rr q hq).cong t10 (fun j _ _ => by rw [F1.at 12])
      refine fm_up (P := fun p st => st.2.1 = nI p ∧ fm_F [14] ν1 st.2.2 ∧ ∃ u q, u < 2 ^ T.length ∧ st.1 = nI u ∧ (q = p ∨ (q = p + 1 ∧ s.testBit p = true)) ∧ q ≤ L.1.length ∧ fZ T L w s q u ∧ (∀ i, i < q → st.2.2.1 14 i = fvl T L w s i) ∧ (∀ i, q ≤ i → i < L.1.length → st.2.2.1 14 i = -4) ∧ ∀ i, q ≤ i → i < L.1.length → s.testBit i = true → fA T L w s 0 0 i = fA T L w s q u i) L.1.length ?_ ?_ 0 (Nat.zero_le _) ⟨rfl, fm_F.rf, 0, 0, by omega, rfl, Or.inl rfl, Nat.zero_le _, fp_can_q.mp can, fun i hi => absurd hi (Nat.not_lt_zero _), fun i _ hi => a0 i hi, fun _ _ _ _ => rfl⟩ (by omega)
      · rintro p ⟨x, y, ν⟩ hp ⟨e1, F, u, q, hu, e2, hq, qn, hz, b1, b2, b3⟩
        simp only at e1 F e2 b1 b2
        subst e1 e2
        have hν : hM ν T L w := h1.c0 F
        have rν : ∀ q, q ≤ L.1.length → yR ν T L w s q := fun q hq => (rr1 q hq).cong t10 (fun j _ _ => by rw [F.at 12])
        unfold f_M_least_L44
        try dsimp only
        rw [hν.2.1.1.1, if_neg (nI_ge hp (by omega)), fm_bit1' (by omega) (by omega)]
        rcases hq with rfl | ⟨rfl, pb⟩
        · by_cases b : s.testBit q = true
          · have ex : ∃ t, fmay T L w s q u t := ((fZ_st hp).mp hz).elim (fun z => by rw [b] at z; cases z.1) (fun z => z.2)
            obtain ⟨m1, m2⟩ := flt_s ex
            obtain ⟨k1, k2⟩ := fmay_k m1
            have ml := m1.1
            have hu2 := fm_or_lt (t := flt T L w s q u) hu ml
            rw [if_pos b, fm_rd (by omega) (by omega), fm_bs, b2 q (Nat.le_refl _) hp, if_neg (show ¬ (0 : Int32) ≤ -4 by decide), fy_lt hν wt wl hw hs hp hu (rν _ (by omega)) (fun z => rν _ z) ex, fm_bs, fm_si (by omega) (by omega), fm_bs, fm_nmE, fm_one (by omega), fm_or, fm_rd (by omega) (by omega), fm_bs, fm_wrn (show 1 ≠ 14 by decide), (hν.1.2 _ ml).1]
            have vq : nI (flt T L w s q u) = fvl T L w s q := by
              unfold fvl
              rw [if_pos b, b3 q (Nat.le_refl _) hp b, fA_self b hp]
            have kk : nI (fm_tt T (flt T L w s q u)).1 = 2 ↔ (fm_tt T (flt T L w s q u)).1 = 2 := nI_eq32 (b := 2) (wt.2 _ ml).1 (by omega)
            by_cases c : (fm_tt T (flt T L w s q u)).1 = 2
            · obtain ⟨j1, j2⟩ := k1 c
              have hp1 := j1.2.1.1
              have sb1 := j1.2.2.1
              rw [if_pos (kk.mpr c), nI_1, fm_si (by omega) (by omega), fm_bs, fm_bs, fm_nm, fm_some, fm_Kl]
              refine ⟨rfl, (F.wr).wr, u ||| 2 ^ flt T L w s q u, q + 2, hu2, rfl, Or.inr ⟨rfl, sb1⟩, by omega, j2, fun i hi => ?_, fun i i1 i2 => ?_, fun i i1 i2 i3 => ?_⟩
              · by_cases e1 : i = q + 1
                · rw [e1, fm_wr, if_pos ⟨rfl, rfl⟩]
                  unfold fvl
                  rw [if_pos sb1, b3 (q + 1) (by omega) hp1 sb1, fA_j1 b c hp1]
                · rw [fm_wr, if_neg (fun z => e1 z.2)]
                  by_cases e2 : i = q
                  · rw [e2, fm_wr, if_pos ⟨rfl, rfl⟩]; exact vq
                  · rw [fm_wr, if_neg (fun z => e2 z.2)]; exact b1 i (by omega)
              · rw [fm_wr, if_neg (by omega), fm_wr, if_neg (by omega)]; exact b2 i (by omega) i2
              · rw [b3 i (by omega) i2 i3, fA_j2 b c (by omega) i2]
            · rw [if_neg (fun z => c (kk.mp z)), fm_bs, fm_nm, fm_some, fm_Kl]
              refine ⟨nI_1 q, F.wr, u ||| 2 ^ flt T L w s q u, q + 1, hu2, rfl, Or.inl rfl, by omega, k2 c, fun i hi => ?_, fun i i1 i2 => ?_, fun i i1 i2 i3 => ?_⟩
              · by_cases e2 : i = q
                · rw [e2, fm_wr, if_pos ⟨rfl, rfl⟩]; exact vq
                · rw [fm_wr, if_neg (fun z => e2 z.2)]; exact b1 i (by omega)
              · rw [fm_wr, if_neg (by omega)]; exact b2 i (by omega) i2
              · rw [b3 i (by omega) i2 i3, fA_al b c (by omega) i2]
          · rw [if_neg b, fm_bs, fm_nm, fm_some, fm_Kl]
            have hz2 : fZ T L w s (q + 1) u := ((fZ_st hp).mp hz).elim (fun z => z.2) (fun z => absurd z.1 b)
            refine ⟨nI_1 q, F, u, q + 1, hu, rfl, Or.inl rfl, by omega, hz2, fun i hi => ?_, fun i i1 i2 => b2 i (by omega) i2, fun i i1 i2 i3 => ?_⟩
            · by_cases e : i = q
              · rw [e, b2 q (Nat.le_refl _) hp]
                unfold fvl
                rw [if_neg b]
              · exact b1 i (by omega)
            · rw [b3 i (by omega) i2 i3, fA_skip b (by omega) i2]
        · rw [if_pos pb, fm_rd (by omega) (by omega), fm_bs, b1 p (by omega)]
          have al : fA T L w s 0 0 p < T.length := ((fA_ok L.1.length 0 0 (by omega) (fp_can_q.mp can)).1 p (Nat.zero_le _) hp pb).1
          have ev : fvl T L w s p = nI (fA T L w s 0 0 p) := by unfold fvl; rw [if_pos pb]
          rw [ev, if_pos (nI_pos' (by omega)), fm_bs, fm_nm, fm_some, fm_Kl]
          exact ⟨nI_1 p, F, u, p + 1, hu, rfl, Or.inl rfl, qn, hz, b1, b2, b3⟩
      · rintro ⟨x, y, ν⟩ ⟨e1, F, u, q, hu, e2, hq, qn, hz, b1, b2, b3⟩
        simp only at e1 F e2 b1 b2
        subst e1 e2
        have hν : hM ν T L w := h1.c0 F
        unfold f_M_least_L44
        try dsimp only
        rw [hν.2.1.1.1, if_pos (nI_le (Nat.le_refl _) (by omega)), fm_some, fm_Kr, fm_some]
        exact ⟨rfl, ((F0.up : fm_F [12, 14] μ ν0).tr F1.up).tr F.up, fun _ i hi => b1 i (by omega)⟩
  · rw [fB0 can, if_pos rfl, fm_some]
    exact ⟨rfl, F0.up, fun z => absurd z can⟩
/-! the class -/
def xfr (us : List Nat) (f u : Nat) : Prop := ∀ i, i < us.length → (f.testBit i = true ↔ u.testBit (xg us i) = false)
theorem xfr_no {T : List fm_Ty} {L : fm_Li} {us : List Nat} {f u i : Nat} (uu : xU T L us T.length) (h : xfr us f u) (hi : i < us.length) (hf : f.testBit i = true) : xfr us (f ^^^ 2 ^ i) (u ||| 2 ^ xg us i) := by
  intro j hj
  have e : (f ^^^ 2 ^ i).testBit j = (f.testBit j && decide (j ≠ i)) := by
    rw [Nat.testBit_xor, Nat.testBit_two_pow]
    by_cases q : i = j
    · subst q; rw [hf]; simp
    · have q2 : j ≠ i := fun z => q z.symm
      simp [q, q2]
  have inj : xg us j = xg us i ↔ j = i := by
    constructor
    · intro z
      by_cases a : j < i
      · have := uu.2.2.1 j i a hi; omega
      · by_cases b : i < j
        · have := uu.2.2.1 i j b hj; omega
        · omega
    · intro z; rw [z]
  rw [e, fm_or_bit, Bool.or_eq_false_iff, Bool.and_eq_true, h j hj, decide_eq_true_eq, decide_eq_false_iff_not, inj]
theorem fm_clr {f i : Nat} (h : f.testBit i = true) : f ^^^ (f &&& 2 ^ i) = f ^^^ 2 ^ i := by
  congr 1
  apply Nat.eq_of_testBit_eq
  intro j
  rw [Nat.testBit_and, Nat.testBit_two_pow]
  by_cases q : i = j
  · subst q; rw [h]; rfl
  · simp [q]
theorem fx_lt {μ : fw_M} {T : List fm_Ty} {L : fm_Li} {w s p u f : Nat} {us : List Nat} (h : xP μ T L w us) (wl : wL L) (wt : wT T) (hw : w ≤ 1) (hs : s < 1024) (vv : ∀ q, q ≤ L.1.length → xV μ T L w s us q) (hp : p < L.1.length) (hb : s.testBit p = true) (hf : f < 2 ^ us.length) (fr : xfr us f u) (ex : ∃ t, fmay T L w s p u t) : fm_T (f_Press_leastType (nI s) (nI p) (nI f) μ) (fun r => ∃ i, i < us.length ∧ r = nI i ∧ f.testBit i = true ∧ xg us i = flt T L w s p u) := by
  have l10 := wl.1
  have uu := h.2.2.2.2.2.2.2.2.2
  have k10 : us.length ≤ 10 := by have := uu.1; have := wt.1; omega
  obtain ⟨w16, w1, wk⟩ := xW_le k10
  have p10 : 2 ^ us.length ≤ 1024 := fm_pow8 (n := 10) k10
  obtain ⟨a, a1, a2, a3⟩ := fx_alone h wl hw hs hp hb
  obtain ⟨b, b1, b2, b3⟩ := fx_joined h wl hw hs hp hb
  unfold f_Press_leastType
  rw [a2, fm_bs, b2, fm_bs, fm_bind]
  have may_us : ∀ t, fmay T L w s p u t → ∃ i, i < us.length ∧ xg us i = t := fun t ht => by
    refine uu.2.2.2 t ht.1 ⟨p, hp, ?_⟩
    rcases ht.2.2 with z | z
    · exact Or.inl z.1.1
    · exact Or.inr ⟨z.1.2.1, z.1.1⟩
  refine fm_up (P := fun i st => st = nI i ∧ ∀ j, j < i → ¬ fmay T L w s p u (xg us j)) us.length ?_ ?_ 0 (Nat.zero_le _) ⟨rfl, fun j hj => absurd hj (Nat.not_lt_zero _)⟩ (by omega)
  · rintro i _ hi ⟨rfl, no⟩
    unfold f_Press_leastType_L19
    rw [h.2.2.2.1, if_neg (nI_ge hi (by omega)), fm_inSet (by omega) (by omega), fm_bs]
    have nxt : ¬ fmay T L w s p u (xg us i) → fm_T (fw_nm (nI i + 1) fun (v94 : Int32) => (some (.inl v94) : Option (Int32 ⊕ (Unit ⊕ Int32)))) (fm_K (fun s1 => s1 = nI (i + 1) ∧ ∀ j, j < i + 1 → ¬ fmay T L w s p u (xg us j)) (fun c => fm_T (match c with | .inl _ => some (-1) | .inr r19 => some r19) fun r => ∃ i, i < us.length ∧ r = nI i ∧ f.testBit i = true ∧ xg us i = flt T L w s p u)) := by
      intro nm
      rw [fm_nm, fm_some, fm_Kl]
      refine ⟨nI_1 i, fun j hj => ?_⟩
      by_cases e : j = i
      · rw [e]; exact nm
      · exact no j (by omega)
    by_cases c0 : f.testBit i = true
    · have free := (fr i hi).mp c0
      have fr2 := xfr_no uu fr hi c0
      have f2 : f ^^^ 2 ^ i < 2 ^ us.length := Nat.xor_lt_two_pow hf (Nat.pow_lt_pow_right (by omega) hi)
      have tr : ∀ q, q ≤ L.1.length → (xb μ q (f ^^^ 2 ^ i) = true ↔ fZ T L w s q (u ||| 2 ^ xg us i)) := fun q hq => by
        rw [vv q hq _ (by omega)]
        exact xQ_q uu L.1.length q _ _ (by omega) (fun j hj => fr2 j hj)
      have yes : fmay T L w s p u (xg us i) → fm_T (some (.inr (.inr (nI i))) : Option (Int32 ⊕ (Unit ⊕ Int32))) (fm_K (fun s1 => s1 = nI (i + 1) ∧ ∀ j, j < i + 1 → ¬ fmay T L w s p u (xg us j)) (fun c => fm_T (match c with | .inl _ => some (-1) | .inr r19 => some r19) fun r => ∃ i, i < us.length ∧ r = nI i ∧ f.testBit i = true ∧ xg us i = flt T L w s p u)) := by
        intro ym
        rw [fm_some, fm_Kr, fm_some]
        refine ⟨i, hi, rfl, c0, (flt_e ym (fun x hx hm => ?_)).symm⟩
        obtain ⟨j, j1, j2⟩ := may_us x hm
        have : j < i := by
          by_cases q : j < i
          · exact q
          · by_cases q2 : j = i
            · rw [q2] at j2; omega
            · have := uu.2.2.1 i j (by omega) j1; omega
        rw [← j2] at hm
        exact no j this hm
      have mi : fmay T L w s p u (xg us i) ↔ ((a.testBit i = true ∧ xb μ (p + 1) (f ^^^ 2 ^ i) = true) ∨ (b.testBit i = true ∧ (p + 2 ≤ L.1.length ∧ xb μ (p + 2) (f ^^^ 2 ^ i) = true))) := by
        rw [a3 i, b3 i, tr (p + 1) (by omega)]
        constructor
        · rintro ⟨_, _, (z | z)⟩
          · exact Or.inl ⟨⟨hi, z.1⟩, z.2⟩
          · have p2 : p + 2 ≤ L.1.length := by have := z.1.2.1.1; omega
            exact Or.inr ⟨⟨hi, z.1⟩, p2, (tr (p + 2) p2).mpr z.2⟩
        · rintro (⟨z1, z2⟩ | ⟨z1, z2, z3⟩)
          · exact ⟨uu.2.1 i hi, free, Or.inl ⟨z1.2, z2⟩⟩
          · exact ⟨uu.2.1 i hi, free, Or.inr ⟨z1.2, (tr (p + 2) z2).mp z3⟩⟩
      rw [if_pos c0, if_neg fm_n10, fm_nmE, fm_one (by omega), fm_andn, fm_clr c0, fm_inSet (by omega) (by omega), fm_bs, nI_1, nI_1, fx_enough (by omega) (by omega), fm_bs, fm_inSet (by omega) (by omega), fm_bs, show (2 : Int32) = nI 2 from rfl, nI_add]
      have tail : (¬ (a.testBit i = true ∧ xb μ (p + 1) (f ^^^ 2 ^ i) = true)) → fm_T (if (if b.testBit i = true then (1 : Int32) else 0) = 0 then fw_nm (nI (i + 1)) fun (v94 : Int32) => some (.inl v94) else (f_Press_isEnough (nI (p + 2)) (nI (f ^^^ 2 ^ i)) μ).bind fun (p85 : Int32) => if p85 = 0 then fw_nm (nI (i + 1)) fun (v94 : Int32) => some (.inl v94) else (some (.inr (.inr (nI i))) : Option (Int32 ⊕ (Unit ⊕ Int32)))) (fm_K (fun s1 => s1 = nI (i + 1) ∧ ∀ j, j < i + 1 → ¬ fmay T L w s p u (xg us j)) (fun c => fm_T (match c with | .inl _ => some (-1) | .inr r19 => some r19) fun r => ∃ i, i < us.length ∧ r = nI i ∧ f.testBit i = true ∧ xg us i = flt T L w s p u)) := by
        intro na
        have nxt2 := nxt
        rw [nI_1] at nxt2
        by_cases c2 : b.testBit i = true
        · have p2 : p + 2 ≤ L.1.length := by have := ((b3 i).mp c2).2.2.1.1; omega
          rw [if_pos c2, if_neg fm_n10, fx_enough (by omega) (by omega), fm_bs]
          by_cases c3 : xb μ (p + 2) (f ^^^ 2 ^ i) = true
          · rw [if_pos c3, if_neg fm_n10]
            exact yes (mi.mpr (Or.inr ⟨c2, p2, c3⟩))
          · rw [if_neg c3, if_pos rfl]
            exact nxt2 (fun z => (mi.mp z).elim na (fun y => c3 y.2.2))
        · rw [if_neg c2, if_pos rfl]
          exact nxt2 (fun z => (mi.mp z).elim na (fun y => c2 y.1))
      by_cases c1 : a.testBit i = true
      · rw [if_pos c1, if_neg fm_n10]
        by_cases c2 : xb μ (p + 1) (f ^^^ 2 ^ i) = true
        · rw [if_pos c2, if_neg fm_n10]
          exact yes (mi.mpr (Or.inl ⟨c1, c2⟩))
        · rw [if_neg c2, if_pos rfl]
          exact tail (fun z => c2 z.2)
      · rw [if_neg c1, if_pos rfl]
        exact tail (fun z => c1 z.1)
    · rw [if_neg c0, if_pos rfl]
      exact nxt (fun z => c0 ((fr i hi).mpr z.2.1))
  · rintro _ ⟨rfl, no⟩
    exfalso
    obtain ⟨t, ht⟩ := ex
    obtain ⟨i, i1, i2⟩ := may_us t ht
    rw [← i2] at ht
    exact no i i1 ht
theorem fx_way {μ : fw_M} {T : List fm_Ty} {L : fm_Li} {w s : Nat} {us : List Nat} (h : xP μ T L w us) (hn : xN μ L.1.length us.length) (wl : wL L) (wt : wT T) (hw : w ≤ 1) (hs : s < 1024) : fm_T (f_Press_findLeastWay (nI s) μ) (fun p => p.1 = fB (fp_can T L w s) ∧ fm_F [83] μ p.2 ∧ xN p.2 L.1.length us.length ∧ (fp_can T L w s → ∀ i, i < L.1.length → s.testBit i = true → p.2.1 83 i = nI (fA T L w s 0 0 i))) := by
  have l10 := wl.1
  have t10 := wt.1
  have uu := h.2.2.2.2.2.2.2.2.2
  have k10 : us.length ≤ 10 := by have := uu.1; omega
  have p10 : 2 ^ us.length ≤ 1024 := fm_pow8 (n := 10) k10
  have pk1 : 1 ≤ 2 ^ us.length := Nat.one_le_two_pow
  unfold f_Press_findLeastWay
  rw [fm_bind]
  refine (fx_inks h hn wl wt hw hs).mono ?_
  rintro ⟨r, ν⟩ ⟨rfl, n1, n2, vv⟩
  simp only at n1 n2 vv ⊢
  have hν : xP ν T L w us := h.cong (fun k _ _ => by rw [n1])
  by_cases can : fp_can T L w s
  · rw [fB1 can, if_neg fm_n10, fx_all hν wt, fm_bs, fm_bind]
    refine fm_wh (P := fun m st => ∃ p u f, m = L.1.length - p ∧ p ≤ L.1.length ∧ f < 2 ^ us.length ∧ st.1 = nI f ∧ st.2.1 = nI p ∧ fm_F [83] ν st.2.2 ∧ st.2.2.2 = ν.2 ∧ xfr us f u ∧ fZ T L w s p u ∧ (∀ i, i < p → s.testBit i = true → st.2.2.1 83 i = nI (fA T L w s 0 0 i)) ∧ ∀ i, p ≤ i → i < L.1.length → s.testBit i = true → fA T L w s 0 0 i = fA T L w s p u i) ?_ (i := L.1.length) ⟨0, 0, 2 ^ us.length - 1, rfl, Nat.zero_le _, by omega, rfl, rfl, fm_F.rf, rfl, fun i hi => by rw [fm_allbits]; simp [hi], fp_can_q.mp can, fun i hi => absurd hi (Nat.not_lt_zero _), fun _ _ _ _ => rfl⟩ (by omega)
    rintro m ⟨x, y, ξ⟩ ⟨p, u, f, rfl, hp, hf, e1, e2, F, f2, fr, hz, b1, b2⟩
    simp only at e1 e2 F f2 b1
    subst e1 e2
    have hξ : xP ξ T L w us := hν.cong (fun k k1 k2 => F k (by simp; omega))
    have vξ : ∀ q, q ≤ L.1.length → xV ξ T L w s us q := fun q hq => (vv q hq).cong k10 (fun j _ _ => by rw [f2])
    unfold f_Press_findLeastWay_L18
    try dsimp only
    rw [hξ.1]
    by_cases pe : p = L.1.length
    · rw [if_pos (nI_le (by omega) (by omega)), fm_some, fm_Kr, fm_some]
      exact ⟨rfl, fun k hk => by rw [F k hk, n1], fun i hi => by rw [f2]; exact n2 i hi, fun _ i hi hb => b1 i (by omega) hb⟩
    · have hp2 : p < L.1.length := by omega
      rw [if_neg (nI_ge hp2 (by omega)), fm_inSet (by omega) (by omega), fm_bs]
      by_cases b : s.testBit p = true
      · have ex : ∃ t, fmay T L w s p u t := ((fZ_st hp2).mp hz).elim (fun z => by rw [b] at z; cases z.1) (fun z => z.2)
        obtain ⟨m1, m2⟩ := flt_s ex
        obtain ⟨k1, k2⟩ := fmay_k m1
        rw [if_pos b, if_neg fm_n10, fm_bind]
        refine (fx_lt hξ wl wt hw hs vξ hp2 b hf fr ex).mono ?_
        rintro r ⟨i, hi, rfl, c0, ei⟩
        have hnum := hξ.2.2.2.2.2.2.1 i hi
        obtain ⟨jm, jm1, jm2, jm3⟩ := hξ.2.2.2.2.2.2.2.2.1 p hp2
        have f2' : f ^^^ 2 ^ i < 2 ^ us.length := Nat.xor_lt_two_pow hf (Nat.pow_lt_pow_right (by omega) hi)
        have fr2 := xfr_no uu fr hi c0
        rw [ei] at fr2
        rw [if_neg (show ¬ nI i = -1 from fm_nne (by omega)), fm_nm, fm_one (by omega), fm_andn, fm_clr c0, fm_rd (by omega) (by omega), fm_bs, hnum, ei, fm_si (by omega) (by omega), fm_bs, fm_rd (by omega) (by omega), fm_bs, fm_wrn (show 68 ≠ 83 by decide), jm2, fm_inSet (by omega) (by omega), fm_bs, fm_wrn (show 65 ≠ 83 by decide), hξ.1, nI_1]
        have vp : fA T L w s 0 0 p = flt T L w s p u := by rw [b2 p (Nat.le_refl _) hp2 b, fA_self b hp2]
        by_cases c : (fm_tt T (flt T L w s p u)).1 = 2
        · obtain ⟨j1, j2⟩ := k1 c
          have hp1 := j1.2.1.1
          have sb1 := j1.2.2.1
          have bit : jm.testBit i = true := (jm3 i).mpr ⟨hi, j1.2.1, by rw [ei]; exact j1.1⟩
          rw [if_pos bit, if_neg fm_n10, if_neg (nI_ge hp1 (by omega)), fm_nmE, fm_wrn (show 66 ≠ 83 by decide), fm_rd (by omega) (by omega), fm_bs, hnum, ei, fm_si (by omega) (by omega), fm_bs, fm_bs, fm_nm, fm_some, fm_Kl]
          refine ⟨L.1.length - (p + 2), by omega, p + 2, u ||| 2 ^ flt T L w s p u, f ^^^ 2 ^ i, rfl, by omega, f2', rfl, nI_1 (p + 1), (F.wr).wr, f2, fr2, j2, fun j hj hb => ?_, fun j j1 j2 j3 => ?_⟩
          · by_cases e1 : j = p + 1
            · rw [e1, fm_wr, if_pos ⟨rfl, rfl⟩, b2 (p + 1) (by omega) hp1 sb1, fA_j1 b c hp1]
            · rw [fm_wr, if_neg (fun z => e1 z.2)]
              by_cases e2 : j = p
              · rw [e2, fm_wr, if_pos ⟨rfl, rfl⟩, vp]
              · rw [fm_wr, if_neg (fun z => e2 z.2)]; exact b1 j (by omega) hb
          · rw [b2 j (by omega) j2 j3, fA_j2 b c (by omega) j2]
        · have bit : ¬ jm.testBit i = true := fun z => by
            have := ((jm3 i).mp z).2.2.1
            rw [ei] at this
            exact c this
          rw [if_neg bit, if_pos rfl, fm_bs, fm_nm, fm_some, fm_Kl]
          refine ⟨L.1.length - (p + 1), by omega, p + 1, u ||| 2 ^ flt T L w s p u, f ^^^ 2 ^ i, rfl, by omega, f2', rfl, nI_1 p, F.wr, f2, fr2, k2 c, fun j hj hb => ?_, fun j j1 j2 j3 => ?_⟩
          · by_cases e2 : j = p
            · rw [e2, fm_wr, if_pos ⟨rfl, rfl⟩, vp]
            · rw [fm_wr, if_neg (fun z => e2 z.2)]; exact b1 j (by omega) hb
          · rw [b2 j (by omega) j2 j3, fA_al b c (by omega) j2]
      · rw [if_neg b, if_pos rfl, fm_nm, fm_some, fm_Kl]
        have hz2 : fZ T L w s (p + 1) u := ((fZ_st hp2).mp hz).elim (fun z => z.2) (fun z => absurd z.1 b)
        refine ⟨L.1.length - (p + 1), by omega, p + 1, u, f, rfl, by omega, hf, rfl, nI_1 p, F, f2, fr, hz2, fun j hj hb => ?_, fun j j1 j2 j3 => ?_⟩
        · by_cases e : j = p
          · rw [e] at hb; exact absurd hb b
          · exact b1 j (by omega) hb
        · rw [b2 j (by omega) j2 j3, fA_skip b (by omega) j2]
  · rw [fB0 can, if_pos rfl, fm_some]
    exact ⟨rfl, fun k _ => by rw [n1], n2, fun z => absurd z can⟩
theorem fo_by : fw_O_by fm_I := by
  intro n μx μm hn hI a1 a2
  have hI0 := hI
  have hI2 := hI.up
  obtain ⟨⟨C, wc, xs, ms, kp⟩, im, tp, sh, rk⟩ := hI
  have l10 := wc.2.1.1
  have p10 : 2 ^ C.2.1.1.length ≤ 1024 := fm_pow8 (n := 10) l10
  have p1 : 1 ≤ 2 ^ C.2.1.1.length := Nat.one_le_two_pow
  have l1 : μx.1 6 1 = nI C.2.1.1.length := xs.2.1.1.1
  have l2 : μm.1 0 6 = nI C.2.1.1.length := ms.2.1.1.1
  unfold f_X_by f_M_by
  rw [fx_isSet l1 l10, fy_isSet l2 l10, fh_lhas, l1, l2, show nI C.2.1.1.length - 1 = nD C.2.1.1.length from rfl, fh_inN C.2.1.1.length rfl (by omega)]
  by_cases g : 1 ≤ a1 ∧ a1 ≤ nI (2 ^ C.2.1.1.length - 1)
  · obtain ⟨s, hs1, hs2, rfl⟩ := fh_cl (l := 1) (n := 2 ^ C.2.1.1.length - 1) rfl rfl (by omega) (by have := Int32.le_trans g.1 g.2; have := (nI_leI (a := 1) (by omega) (by omega)).mp this; omega) g
    rw [if_pos g]
    simp only [fm_bs]
    rw [if_neg fm_n10, if_neg fm_n10]
    by_cases g2 : 0 ≤ a2 ∧ a2 < nI C.2.1.1.length
    · obtain ⟨p, hp, rfl⟩ := fh_cs (by omega) g2
      rw [if_pos g2, if_neg fm_n10, if_neg fm_n10, fm_inSet (by omega) (by omega), fm_bs, fm_bit0' (by omega) (by omega)]
      by_cases b : s.testBit p = true
      · obtain ⟨ν1, e1, F1, us, hP, hN⟩ := fx_lockLine wc xs
        obtain ⟨⟨r, ν2⟩, e2, e3, F2, -, v1⟩ := fx_way (s := s) hP hN wc.2.1 wc.1 wc.2.2.2.1.1 (by omega)
        obtain ⟨⟨r2, νm⟩, e4, e5, G, v2⟩ := fy_least (s := s) (fm_hM ms) wc.1.w2 wc.2.1 wc.2.2.2.1.1 (by omega)
        simp only at e3 F2 v1 e5 G v2
        subst e3 e5
        have I3 : fm_I (n + 1) ν2 νm := fm_scr hI0 (lx := [65, 66, 67, 68, 83]) ((F1.up : fm_F [65, 66, 67, 68, 83] μx ν1).tr F2.up) G (fun j _ _ _ => by rw [G.at 0]) (rk.st G (by rw [G.at 0]))
        rw [if_pos b, if_pos b, if_neg fm_n10, e1, fm_bs, e2, fm_bs, e4, fm_bs]
        simp only
        by_cases can : fp_can C.1 C.2.1 (C.2.2.2.1 0) s
        · rw [fB1 can, if_neg fm_n10, if_neg fm_n10, fm_rd (by omega) (by omega), fm_bs, fm_bs, fm_rd (by omega) (by omega), fm_bs, fm_bs, v1 can p hp b, v2 can p hp]
          unfold fvl
          rw [if_pos b]
          exact ⟨_, _, _, rfl, rfl, I3⟩
        · rw [fB0 can, if_pos rfl, if_pos rfl, fm_bs]
          exact ⟨_, _, _, rfl, rfl, I3⟩
      · rw [if_neg b, if_neg b, if_pos rfl]
        exact ⟨_, _, _, rfl, rfl, hI2⟩
    · rw [if_neg g2]
      exact ⟨_, _, _, rfl, rfl, hI2⟩
  · rw [if_neg g]
    exact ⟨_, _, _, rfl, rfl, hI2⟩
