/-! the class's press -/
theorem fm_sub_bit : ∀ (t f x : Nat), f.testBit t = true → (f - 2 ^ t).testBit x = (f.testBit x && decide (x ≠ t)) := by
  intro t
  induction t with
  | zero =>
    intro f x h
    rw [Nat.testBit_zero] at h
    have h1 : f % 2 = 1 := of_decide_eq_true h
    cases x with
    | zero =>
      rw [Nat.testBit_zero]
      have : ¬ (f - 2 ^ 0) % 2 = 1 := by rw [Nat.pow_zero]; omega
      simp [this]
    | succ x =>
      rw [Nat.testBit_succ, Nat.testBit_succ, show (f - 2 ^ 0) / 2 = f / 2 by rw [Nat.pow_zero]; omega]
      simp
  | succ t ih =>
    intro f x h
    have hg := fm_ge2 h
    rw [Nat.testBit_succ] at h
    cases x with
    | zero =>
      rw [Nat.testBit_zero, Nat.testBit_zero, show (f - 2 ^ (t + 1)) % 2 = f % 2 by rw [Nat.pow_succ] at hg ⊢; omega]
      simp
    | succ x =>
      rw [Nat.testBit_succ, Nat.testBit_succ, show (f - 2 ^ (t + 1)) / 2 = f / 2 - 2 ^ t by rw [Nat.pow_succ] at hg ⊢; omega, ih (f / 2) x h]
      congr 1
      simp
def fbt (f : Nat) : Nat → Prop := fun x => f.testBit x = true
theorem fbt_no {f t : Nat} (h : f.testBit t = true) : fq_no (fbt f) t = fbt (f - 2 ^ t) := by
  funext x
  apply propext
  unfold fq_no fbt
  rw [fm_sub_bit t f x h]
  simp
theorem fx_prints {μ : fw_M} {T : List fm_Ty} {L : fm_Li} {t p : Nat} (h : rT (μ.1 2 3) (μ.1 3) (μ.1 4) (μ.1 5) T) (wt : wT T) (wl : wL L) (ht : t < T.length) (hp : p < L.1.length) : f_Case_prints_2 (nI t) (nI (fm_ll L p)) μ = some (fB (fp_pr T L t p)) := by
  have t10 := wt.1
  obtain ⟨b1, b2, b3⟩ := h.2 t ht
  obtain ⟨c1, c2, c3⟩ := fm_ok_lt (wt.2 t ht)
  have c4 := wl.2.1 p hp
  have r : ∀ f : Nat → Int32, fw_rd 10 f (nI t) = some (f t) := fun f => fm_rd (by omega) (by omega)
  have k1 : nI (fm_tt T t).1 = 1 ↔ (fm_tt T t).1 = 1 := nI_eq (b := 1) (by omega) (by omega)
  have k2 : nI (fm_tt T t).1 = 2 ↔ (fm_tt T t).1 = 2 := nI_eq (b := 2) (by omega) (by omega)
  have k3 : nI (fm_tt T t).2.1 = nI (fm_ll L p) ↔ (fm_tt T t).2.1 = fm_ll L p := nI_eq (by omega) (by omega)
  have k4 : nI (fm_tt T t).2.2 = nI (fm_ll L p) ↔ (fm_tt T t).2.2 = fm_ll L p := nI_eq (by omega) (by omega)
  unfold f_Case_prints_2
  simp only [r, fm_bs, b1, b2, b3, k1, k2, k3, k4]
  by_cases e2 : (fm_tt T t).1 = 2
  · have e1 : ¬ (fm_tt T t).1 = 1 := by omega
    rw [if_pos e2, fB0 (fun z => z.elim (fun q => q.1 e2) (fun q => e1 q.1))]
  · rw [if_neg e2]
    by_cases e3 : (fm_tt T t).2.1 = fm_ll L p
    · rw [if_pos e3, fB1 (show fp_pr T L t p from Or.inl ⟨e2, e3⟩)]; rfl
    · rw [if_neg e3]
      by_cases e1 : (fm_tt T t).1 = 1
      · rw [if_pos e1]
        by_cases e4 : (fm_tt T t).2.2 = fm_ll L p
        · rw [if_pos e4, fB1 (show fp_pr T L t p from Or.inr ⟨e1, e4⟩)]; rfl
        · rw [if_neg e4, fB0 (fun z => z.elim (fun q => e3 q.2) (fun q => e4 q.2))]; rfl
      · rw [if_neg e1, fB0 (fun z => z.elim (fun q => e3 q.2) (fun q => e1 q.1))]; rfl
theorem fx_joins {μ : fw_M} {T : List fm_Ty} {L : fm_Li} {t p : Nat} (h : rT (μ.1 2 3) (μ.1 3) (μ.1 4) (μ.1 5) T) (wt : wT T) (wl : wL L) (ht : t < T.length) (hp : p + 1 < L.1.length) : f_Case_joins_2 (nI t) (nI (fm_ll L p)) (nI (fm_ll L (p + 1))) μ = some (fB (fp_jn T L t p)) := by
  have t10 := wt.1
  obtain ⟨b1, b2, b3⟩ := h.2 t ht
  obtain ⟨c1, c2, c3⟩ := fm_ok_lt (wt.2 t ht)
  have c4 := wl.2.1 p (by omega)
  have c5 := wl.2.1 (p + 1) hp
  have r : ∀ f : Nat → Int32, fw_rd 10 f (nI t) = some (f t) := fun f => fm_rd (by omega) (by omega)
  have k2 : nI (fm_tt T t).1 = 2 ↔ (fm_tt T t).1 = 2 := nI_eq (b := 2) (by omega) (by omega)
  have k3 : nI (fm_tt T t).2.1 = nI (fm_ll L p) ↔ (fm_tt T t).2.1 = fm_ll L p := nI_eq (by omega) (by omega)
  have k4 : nI (fm_tt T t).2.2 = nI (fm_ll L (p + 1)) ↔ (fm_tt T t).2.2 = fm_ll L (p + 1) := nI_eq (by omega) (by omega)
  unfold f_Case_joins_2
  simp only [r, fm_bs, b1, b2, b3, k2, k3, k4]
  by_cases e1 : (fm_tt T t).1 = 2
  · rw [if_pos e1]
    by_cases e4 : (fm_tt T t).2.1 = fm_ll L p
    · rw [if_pos e4]
      by_cases e5 : (fm_tt T t).2.2 = fm_ll L (p + 1)
      · rw [if_pos e5, fB1 (show fp_jn T L t p from ⟨e1, e4, e5⟩)]; rfl
      · rw [if_neg e5, fB0 (fun z => e5 z.2.2)]; rfl
    · rw [if_neg e4, fB0 (fun z => e4 z.2.1)]; rfl
  · rw [if_neg e1, fB0 (fun z => e1 z.1)]; rfl
/-- a row of sets -/
def xA (f : Nat → Int32) (n : Nat) (φ : Nat → Nat → Prop) : Prop := ∀ q, q < n → ∃ a : Nat, a < 1024 ∧ f q = nI a ∧ ∀ i, a.testBit i = true ↔ φ i q
theorem xA.iff {f : Nat → Int32} {n : Nat} {φ ψ : Nat → Nat → Prop} (h : xA f n φ) (e : ∀ i q, q < n → (φ i q ↔ ψ i q)) : xA f n ψ := fun q hq => by
  obtain ⟨a, a1, a2, a3⟩ := h q hq
  exact ⟨a, a1, a2, fun i => (a3 i).trans (e i q hq)⟩
theorem xA.set {f : Nat → Int32} {n p k : Nat} {φ : Nat → Nat → Prop} (h : xA f n φ) (hp : p < n) (hk : k < 10) : ∃ a, f p = nI a ∧ xA (upd f p (nI (a ||| 2 ^ k))) n (fun i q => φ i q ∨ (q = p ∧ i = k)) := by
  obtain ⟨a, a1, a2, a3⟩ := h p hp
  refine ⟨a, a2, fun q hq => ?_⟩
  by_cases e : q = p
  · subst e
    refine ⟨a ||| 2 ^ k, fm_or_lt (m := 10) a1 hk, by rw [fm_upd, if_pos rfl], fun i => ?_⟩
    rw [fm_or_bit]
    simp only [Bool.or_eq_true, decide_eq_true_eq, a3 i, true_and]
  · obtain ⟨b, b1, b2, b3⟩ := h q hq
    refine ⟨b, b1, by rw [fm_upd, if_neg e]; exact b2, fun i => (b3 i).trans ⟨Or.inl, fun z => z.elim id (fun y => absurd y.1 e)⟩⟩
/-- a type that prints at a place -/
def fU (T : List fm_Ty) (L : fm_Li) (t q : Nat) : Prop := fp_pr T L t q ∨ (fp_bs L q ∧ fp_jn T L t q)
theorem fx_lockType {μ : fw_M} {T : List fm_Ty} {L : fm_Li} {t1 t k : Nat} {φ ψ : Nat → Nat → Prop} (hok : fw_okL t1) (h60 : t1 < 60) (hT : rT (μ.1 2 3) (μ.1 3) (μ.1 4) (μ.1 5) T) (wt : wT T) (hL : xL t1 μ L) (wl : wL L) (ht : t < T.length) (h5 : μ.1 65 5 = nI L.1.length) (h8 : μ.1 65 8 = nI k) (hk : k < 10) (hA : xA (μ.1 67) L.1.length φ) (hB : xA (μ.1 68) L.1.length ψ) : fm_T (f_Press_lockType t1 (nI t) μ) (fun p => fm_F [67, 68] μ p.2 ∧ p.2.2 = μ.2 ∧ p.1 = fB (∃ q, q < L.1.length ∧ fU T L t q) ∧ xA (p.2.1 67) L.1.length (fun i q => φ i q ∨ (i = k ∧ fp_pr T L t q)) ∧ xA (p.2.1 68) L.1.length (fun i q => ψ i q ∨ (i = k ∧ fp_bs L q ∧ fp_jn T L t q))) := by
  have l10 := wl.1
  unfold f_Press_lockType
  rw [if_pos hok, fm_bind]
  refine fm_up (P := fun p s => s.1 = fB (∃ q, q < p ∧ fU T L t q) ∧ s.2.1 = nI p ∧ fm_F [67, 68] μ s.2.2 ∧ s.2.2.2 = μ.2 ∧ xA (s.2.2.1 67) L.1.length (fun i q => φ i q ∨ (q < p ∧ i = k ∧ fp_pr T L t q)) ∧ xA (s.2.2.1 68) L.1.length (fun i q => ψ i q ∨ (q < p ∧ i = k ∧ fp_bs L q ∧ fp_jn T L t q))) L.1.length ?_ ?_ 0 (Nat.zero_le _) ⟨by rw [fB0 (fun ⟨q, hq, _⟩ => absurd hq (Nat.not_lt_zero _))], rfl, fm_F.rf, rfl, hA.iff (fun i q _ => ⟨Or.inl, fun z => z.elim id (fun y => absurd y.1 (Nat.not_lt_zero _))⟩), hB.iff (fun i q _ => ⟨Or.inl, fun z => z.elim id (fun y => absurd y.1 (Nat.not_lt_zero _))⟩)⟩ (by omega)
  · rintro p ⟨fl, x, ν⟩ hp ⟨e1, e2, F, f2, a7, a8⟩
    simp only at e1 e2 F f2 a7 a8
    subst e2
    have n5 : ν.1 65 5 = nI L.1.length := by rw [F.at 65]; exact h5
    have n8 : ν.1 65 8 = nI k := by rw [F.at 65]; exact h8
    have nT : rT (ν.1 2 3) (ν.1 3) (ν.1 4) (ν.1 5) T := cT hT F
    have nL : xL t1 ν L := hL.cong (F _ (by simp; omega)) (F _ (by simp; omega))
    unfold f_Press_lockType_L6
    try dsimp only
    rw [n5, if_neg (nI_ge hp (by omega)), fm_rd (by omega) (by omega), fm_bs, nL.1.2 p hp, fx_prints nT wt wl ht hp, fm_bs]
    have st1 : fm_T (if fB (fp_pr T L t p) = 0 then some (fl, ν) else (fw_rd 10 (ν.1 67) (nI p)).bind fun v37 => (fw_si 10 ν 67 (nI p) (v37 ||| ((1 : Int32) <<< ((ν.1 65 8) &&& 31)))).bind fun μ45 => some (1, μ45)) (fun s => s.1 = fB ((∃ q, q < p ∧ fU T L t q) ∨ fp_pr T L t p) ∧ fm_F [67, 68] μ s.2 ∧ s.2.2 = μ.2 ∧ xA (s.2.1 67) L.1.length (fun i q => φ i q ∨ (q < p + 1 ∧ i = k ∧ fp_pr T L t q)) ∧ s.2.1 68 = ν.1 68) := by
      by_cases pr : fp_pr T L t p
      · obtain ⟨a, q1, q2⟩ := a7.set hp hk
        rw [fB1 pr, if_neg fm_n10, fm_rd (by omega) (by omega), fm_bs, q1, n8, fm_one (by omega), fm_or, fm_si (by omega) (by omega), fm_bs, fm_some]
        refine ⟨by rw [fB1 (Or.inr pr)], F.wr, f2, ?_, fm_wrn (by decide)⟩
        show xA ((fw_wr ν 67 p (nI (a ||| 2 ^ k))).1 67) _ _
        rw [fm_wrs]
        refine q2.iff (fun i q hq => ⟨?_, ?_⟩)
        · rintro ((z | ⟨z1, z2, z3⟩) | ⟨z1, z2⟩)
          · exact Or.inl z
          · exact Or.inr ⟨by omega, z2, z3⟩
          · subst z1; exact Or.inr ⟨by omega, z2, pr⟩
        · rintro (z | ⟨z1, z2, z3⟩)
          · exact Or.inl (Or.inl z)
          · by_cases e : q = p
            · exact Or.inr ⟨e, z2⟩
            · exact Or.inl (Or.inr ⟨by omega, z2, z3⟩)
      · rw [fB0 pr, if_pos rfl, fm_some]
        refine ⟨e1.trans (fBi ⟨Or.inl, fun z => z.elim id (fun y => absurd y pr)⟩), F, f2, a7.iff (fun i q hq => ⟨fun z => z.imp id (fun y => ⟨by omega, y.2⟩), fun z => z.imp id (fun y => ⟨?_, y.2⟩)⟩), rfl⟩
        by_cases e : q = p
        · rw [e] at y; exact absurd y.2.2 pr
        · have := y.1; omega
    rw [fm_bind]
    refine st1.mono ?_
    rintro ⟨fl2, ξ⟩ ⟨g1, G, g2, g7, g8⟩
    simp only at g1 G g2 g7 g8
    have m5 : ξ.1 65 5 = nI L.1.length := by rw [G.at 65]; exact h5
    have m8 : ξ.1 65 8 = nI k := by rw [G.at 65]; exact h8
    have mT : rT (ξ.1 2 3) (ξ.1 3) (ξ.1 4) (ξ.1 5) T := cT hT G
    have mL : xL t1 ξ L := hL.cong (G _ (by simp; omega)) (G _ (by simp; omega))
    rw [← g8] at a8
    simp only
    rw [m5, nI_1, fm_bind]
    have none8 : ¬ (fp_bs L p ∧ fp_jn T L t p) → fm_T (some (fl2, ξ)) (fun s => fm_T (fw_nm (nI (p + 1)) fun (v112 : Int32) => (some (.inl (s.1, v112, s.2)) : Option ((Int32 × Int32 × fw_M) ⊕ (Int32 × fw_M)))) (fm_K (fun s => s.1 = fB (∃ q, q < p + 1 ∧ fU T L t q) ∧ s.2.1 = nI (p + 1) ∧ fm_F [67, 68] μ s.2.2 ∧ s.2.2.2 = μ.2 ∧ xA (s.2.2.1 67) L.1.length (fun i q => φ i q ∨ (q < p + 1 ∧ i = k ∧ fp_pr T L t q)) ∧ xA (s.2.2.1 68) L.1.length (fun i q => ψ i q ∨ (q < p + 1 ∧ i = k ∧ fp_bs L q ∧ fp_jn T L t q))) (fun a => fm_T ((fw_bz a.1).bind fun b120 => some (b120, a.2)) fun p => fm_F [67, 68] μ p.2 ∧ p.2.2 = μ.2 ∧ p.1 = fB (∃ q, q < L.1.length ∧ fU T L t q) ∧ xA (p.2.1 67) L.1.length (fun i q => φ i q ∨ (i = k ∧ fp_pr T L t q)) ∧ xA (p.2.1 68) L.1.length (fun i q => ψ i q ∨ (i = k ∧ fp_bs L q ∧ fp_jn T L t q))))) := by
      intro no
      rw [fm_some, fm_nm, fm_some, fm_Kl]
      refine ⟨g1.trans (fBi ⟨?_, ?_⟩), rfl, G, g2, g7, a8.iff (fun i q hq => ⟨fun z => z.imp id (fun y => ⟨by omega, y.2⟩), fun z => z.imp id (fun y => ⟨?_, y.2⟩)⟩)⟩
      · rintro (⟨q, q1, q2⟩ | z)
        · exact ⟨q, by omega, q2⟩
        · exact ⟨p, by omega, Or.inl z⟩
      · rintro ⟨q, q1, q2⟩
        by_cases e : q = p
        · subst e; exact q2.elim Or.inr (fun y => absurd y no)
        · exact Or.inl ⟨q, by omega, q2⟩
      · by_cases e : q = p
        · rw [e] at y; exact absurd y.2.2 no
        · have := y.1; omega
    by_cases hp1 : p + 1 < L.1.length
    · rw [if_neg (nI_ge hp1 (by omega)), fx_beside2 hok mL.2 wl (by omega), fm_bs]
      by_cases bs : p + 1 < L.1.length ∧ L.2.testBit p = false
      · rw [if_pos bs, if_neg fm_n10, fm_rd (by omega) (by omega), fm_bs, fm_rd (by omega) (by omega), fm_bs, mL.1.2 p hp, mL.1.2 (p + 1) hp1, fx_joins mT wt wl ht hp1, fm_bs]
        by_cases jn : fp_jn T L t p
        · obtain ⟨a, q1, q2⟩ := a8.set hp hk
          rw [fB1 jn, if_neg fm_n10, fm_rd (by omega) (by omega), fm_bs, q1, m8, fm_one (by omega), fm_or, fm_si (by omega) (by omega), fm_bs, fm_some, fm_nm, fm_some, fm_Kl]
          refine ⟨by rw [fB1 (show ∃ q, q < p + 1 ∧ fU T L t q from ⟨p, by omega, Or.inr ⟨bs, jn⟩⟩)], rfl, G.wr, g2, ?_, ?_⟩
          · show xA ((fw_wr ξ 68 p (nI (a ||| 2 ^ k))).1 67) _ _
            rw [fm_wrn (by decide)]
            exact g7
          · show xA ((fw_wr ξ 68 p (nI (a ||| 2 ^ k))).1 68) _ _
            rw [fm_wrs]
            refine q2.iff (fun i q hq => ⟨?_, ?_⟩)
            · rintro ((z | ⟨z1, z2, z3⟩) | ⟨z1, z2⟩)
              · exact Or.inl z
              · exact Or.inr ⟨by omega, z2, z3⟩
              · subst z1; exact Or.inr ⟨by omega, z2, bs, jn⟩
            · rintro (z | ⟨z1, z2, z3⟩)
              · exact Or.inl (Or.inl z)
              · by_cases e : q = p
                · exact Or.inr ⟨e, z2⟩
                · exact Or.inl (Or.inr ⟨by omega, z2, z3⟩)
        · rw [fB0 jn, if_pos rfl]
          exact none8 (fun z => jn z.2)
      · rw [if_neg bs, if_pos rfl]
        exact none8 (fun z => bs z.1)
    · rw [if_pos (nI_le (by omega) (by omega))]
      exact none8 (fun z => hp1 z.1.1)
  · rintro ⟨fl, x, ν⟩ ⟨e1, e2, F, f2, a7, a8⟩
    simp only at e1 e2 F f2 a7 a8
    subst e2
    unfold f_Press_lockType_L6
    try dsimp only
    rw [F.at 65, h5, if_pos (nI_le (Nat.le_refl _) (by omega)), fm_some, fm_Kr, e1]
    simp only
    rw [fBz, fm_bs, fm_some]
    exact ⟨F, f2, rfl, a7.iff (fun i q hq => ⟨fun z => z.imp id (fun y => y.2), fun z => z.imp id (fun y => ⟨hq, y⟩)⟩), a8.iff (fun i q hq => ⟨fun z => z.imp id (fun y => y.2), fun z => z.imp id (fun y => ⟨hq, y⟩)⟩)⟩
def xg (us : List Nat) (i : Nat) : Nat := us.getD i 0
theorem xg_app {us : List Nat} {t i : Nat} (h : i < us.length) : xg (us ++ [t]) i = xg us i := fm_gDa h
theorem xg_last {us : List Nat} {t : Nat} : xg (us ++ [t]) us.length = t := fm_gDl
/-- the useful types below t -/
def xU (T : List fm_Ty) (L : fm_Li) (us : List Nat) (t : Nat) : Prop := us.length ≤ t ∧ (∀ i, i < us.length → xg us i < t) ∧ (∀ i j, i < j → j < us.length → xg us i < xg us j) ∧ ∀ x, x < t → (∃ q, q < L.1.length ∧ fU T L x q) → ∃ i, i < us.length ∧ xg us i = x
def xcap (T : List fm_Ty) (us : List Nat) : Nat := fm_su (fun i => if (fm_tt T (xg us i)).1 = 2 then 2 else 1) us.length
theorem xcap_app {T : List fm_Ty} {us : List Nat} {t : Nat} : xcap T (us ++ [t]) = xcap T us + (if (fm_tt T t).1 = 2 then 2 else 1) := by
  unfold xcap
  rw [List.length_append, List.length_singleton]
  show fm_su _ us.length + (if (fm_tt T (xg (us ++ [t]) us.length)).1 = 2 then 2 else 1) = _
  rw [xg_last, fm_su_cong (g := fun i => if (fm_tt T (xg us i)).1 = 2 then 2 else 1) us.length (fun i hi => by rw [xg_app hi])]
def xP (ν : fw_M) (T : List fm_Ty) (L : fm_Li) (w : Nat) (us : List Nat) : Prop := ν.1 65 5 = nI L.1.length ∧ ν.1 65 6 = nI (fm_be L) ∧ ν.1 65 7 = nI w ∧ ν.1 65 8 = nI us.length ∧ ν.1 65 9 = nI (xW us.length) ∧ ν.1 65 10 = nI (xcap T us) ∧ (∀ i, i < us.length → ν.1 66 i = nI (xg us i)) ∧ xA (ν.1 67) L.1.length (fun i q => i < us.length ∧ fp_pr T L (xg us i) q) ∧ xA (ν.1 68) L.1.length (fun i q => i < us.length ∧ fp_bs L q ∧ fp_jn T L (xg us i) q) ∧ xU T L us T.length
