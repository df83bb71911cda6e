/-! pullsFor -/
def fx_at (C : fm_C) (q t0 : Nat) (L : fm_Li) : Prop := (q = 8 ∧ t0 = 6 ∧ L = C.2.1) ∨ (q < C.2.2.2.2.1.length ∧ t0 = 11 + 2 * q ∧ L = (fm_xx C.2.2.2.2.1 q).2)
theorem fx_at_ok {μ : fw_M} {C : fm_C} {q t0 : Nat} {L : fm_Li} (wc : wC C) (xs : xS 1 μ C) (h : fx_at C q t0 L) : q ≤ 8 ∧ fw_okL t0 ∧ t0 < 60 ∧ xL t0 μ L ∧ wL L := by
  have h8 := wc.2.2.2.2.1.1
  rcases h with ⟨rfl, rfl, rfl⟩ | ⟨hq, rfl, rfl⟩
  · exact ⟨Nat.le_refl _, fh_ok6, by omega, xs.2.1, wc.2.1⟩
  · refine ⟨by omega, fh_okT q (by omega), by omega, ?_, (wc.2.2.2.2.1.2 q hq).2.1⟩
    have := (xs.2.2.2.2.1.2 q hq).1
    rw [show 1 + 10 + 2 * q = 11 + 2 * q by omega] at this
    exact this
theorem fm_kept.at {μ : fw_M} {C : fm_C} {q t0 : Nat} {L : fm_Li} (kp : fm_kept μ C) (h : fx_at C q t0 L) : μ.1 81 q = 0 ∨ ∃ f, fp_few (fp_can C.1 L (C.2.2.2.1 0)) (fp_all L) f ∧ μ.1 81 q = fp_ans f := by
  rcases h with ⟨rfl, rfl, rfl⟩ | ⟨hq, rfl, rfl⟩
  · rcases kp.2 with h | ⟨f, f1, f2, _⟩
    · exact Or.inl h
    · exact Or.inr ⟨f, f1, f2⟩
  · exact kp.1 q hq
theorem fm_kept.up {μ ν : fw_M} {C : fm_C} {q t0 f : Nat} {L : fm_Li} (wc : wC C) (kp : fm_kept μ C) (h : fx_at C q t0 L) (h81 : ∀ j, j ≠ q → ν.1 81 j = μ.1 81 j) (hv : ν.1 81 q = fp_ans f) (hf : fp_few (fp_can C.1 L (C.2.2.2.1 0)) (fp_all L) f) (h82 : q ≠ 8 → ν.1 82 = μ.1 82) (hp : q = 8 → f < 99 → ∃ P : List Nat, P.length = f ∧ fp_plan (fp_can C.1 L (C.2.2.2.1 0)) P (fp_all L) ∧ ∀ i, i < f → ν.1 82 i = nI (P.getD i 0)) : fm_kept ν C := by
  have h8 := wc.2.2.2.2.1.1
  rcases h with ⟨rfl, rfl, rfl⟩ | ⟨hq, rfl, rfl⟩
  · refine ⟨fun k hk => by rw [h81 k (by omega)]; exact kp.1 k hk, Or.inr ⟨f, hf, hv, hp rfl⟩⟩
  · refine ⟨fun k hk => ?_, by rw [h81 8 (by omega), h82 (by omega)]; exact kp.2⟩
    by_cases e : k = q
    · subst e; exact Or.inr ⟨f, hf, hv⟩
    · rw [h81 k e]; exact kp.1 k hk
theorem fp_ans_ne {can : Nat → Prop} {s f : Nat} (s0 : s ≠ 0) (hs : s < 1024) (h : fp_few can s f) : fp_ans f ≠ 0 := by
  have f10 := fp_few_10 hs h
  have f0 : f ≠ 0 := fun z => by
    subst z
    rcases h with ⟨_, h, _⟩ | ⟨h, _⟩
    · exact s0 h
    · omega
  unfold fp_ans
  by_cases q : f < 99
  · rw [if_pos q]; exact nI_ne0 (by omega) (by omega)
  · rw [if_neg q]; decide
theorem fp_all_b {L : fm_Li} (wl : wL L) (n0 : L.1.length ≠ 0) : fp_all L ≠ 0 ∧ fp_all L < 1024 := by
  have p10 : 2 ^ L.1.length ≤ 1024 := fm_pow8 (n := 10) wl.1
  have p2 : 2 ≤ 2 ^ L.1.length := fm_pow8 (k := 1) (by omega)
  unfold fp_all
  exact ⟨by omega, by omega⟩
theorem fx_pulls {μ : fw_M} {C : fm_C} {q t0 : Nat} {L : fm_Li} (wc : wC C) (xs : xS 1 μ C) (kp : fm_kept μ C) (at0 : fx_at C q t0 L) (n0 : L.1.length ≠ 0) : fm_T (f_X_pullsFor (nI q) μ) (fun p => ∃ f, fp_few (fp_can C.1 L (C.2.2.2.1 0)) (fp_all L) f ∧ p.1 = fp_ans f ∧ fm_F [65, 66, 67, 68, 70, 81, 82] μ p.2 ∧ fm_kept p.2 C ∧ p.2.1 81 q = fp_ans f) := by
  obtain ⟨q8, hok, h60, hL, wl⟩ := fx_at_ok wc xs at0
  obtain ⟨a0, a10⟩ := fp_all_b wl n0
  have l10 := wl.1
  have w1 := wc.2.2.2.1.1
  have e8 : (nI q = 8) ↔ q = 8 := nI_eq (b := 8) (by omega) (by omega)
  have j3 : (Option.bind (if nI q = 8 then (some 6 : Option Nat) else (fw_rq 8 [11, 13, 15, 17, 19, 21, 23, 25] (nI q)).bind fun r24 => if fw_okL r24 then some r24 else none) (fun x => some x)) = some t0 := by
    rcases at0 with ⟨rfl, rfl, _⟩ | ⟨hq, rfl, _⟩
    · rw [if_pos (show nI 8 = 8 from rfl)]; rfl
    · have h8 := wc.2.2.2.2.1.1
      rw [if_neg (fun z => by have := e8.mp z; omega), fh_rq8 (by omega), fm_bs, if_pos hok]; rfl
  have j3b : (if nI q = 8 then (some 6 : Option Nat) else (fw_rq 8 [11, 13, 15, 17, 19, 21, 23, 25] (nI q)).bind fun r24 => if fw_okL r24 then some r24 else none) = some t0 := by
    revert j3
    cases (if nI q = 8 then (some 6 : Option Nat) else (fw_rq 8 [11, 13, 15, 17, 19, 21, 23, 25] (nI q)).bind fun r24 => if fw_okL r24 then some r24 else none) with
    | none => intro h; cases h
    | some v => intro h; exact h
  unfold f_X_pullsFor
  rw [j3b, fm_bs, if_pos hok, show μ.1 t0 1 = nI L.1.length from hL.1.1, if_neg (nI_ne0 (by omega) (by omega)), fm_rd (by omega) (by omega), fm_bs]
  rcases kp.at at0 with z | ⟨f, f1, f2⟩
  · rw [z, if_pos rfl, fm_si (by omega) (by omega), fm_bs]
    generalize hμ : fw_wr μ 81 q (-4) = μ2
    have F1 : fm_F [81] μ μ2 := by rw [← hμ]; exact fm_F.rf.wr
    have v81 : ∀ j, μ2.1 81 j = if j = q then -4 else μ.1 81 j := fun j => by
      rw [← hμ, fm_wr]
      by_cases e : j = q
      · rw [if_pos ⟨rfl, e⟩, if_pos e]
      · rw [if_neg (fun z => e z.2), if_neg e]
    have T2 : rT (μ2.1 2 3) (μ2.1 3) (μ2.1 4) (μ2.1 5) C.1 := cT xs.1 F1
    have L2 : xL t0 μ2 L := hL.cong (F1 _ (by simp; omega)) (F1 _ (by simp; omega))
    rw [fx_say1 (w := C.2.2.2.1 0) hok T2 wc.1 L2 wl, fm_bs]
    by_cases say : ∃ k, fp_part (fp_can C.1 L (C.2.2.2.1 0)) k (fp_all L)
    · rw [fB1 say, if_neg fm_n10]
      have r0 : μ2.1 9 0 = nI (C.2.2.2.1 0) := by rw [F1.at 9]; exact xs.2.2.2.1 0 (by omega)
      have e : (if nI (C.2.2.2.1 0) = 1 then (1 : Int32) else 0) = nI (C.2.2.2.1 0) := by
        have : C.2.2.2.1 0 = 0 ∨ C.2.2.2.1 0 = 1 := by omega
        rcases this with h | h <;> rw [h] <;> rfl
      rw [show (fw_rd 3 (μ2.1 9) 0) = some (μ2.1 9 0) from fm_rd (j := 0) (by omega) (by omega), fm_bs, r0, fm_nmE, e, fm_bind, fm_bind]
      refine (fx_lock hok h60 T2 wc.1 L2 wl w1).mono ?_
      intro ν ⟨F2, us, hP, hN⟩
      rw [fm_bind]
      refine (fx_solve hP hN wl wc.1 w1 n0).mono ?_
      rintro ⟨r, ξ⟩ ⟨f, f1, rfl, F3, hx⟩
      simp only at F3 hx ⊢
      have f99 : f < 99 := by
        rcases f1 with ⟨h, _⟩ | ⟨_, h⟩
        · exact h
        · obtain ⟨k, hk⟩ := say; exact absurd hk (h k)
      rw [fm_si (by omega) (by omega), fm_bs]
      generalize hζ : fw_wr ξ 81 q (fp_ans f) = ζ
      have F4 : fm_F [81] ξ ζ := by rw [← hζ]; exact fm_F.rf.wr
      have z81 : ∀ j, ζ.1 81 j = if j = q then fp_ans f else μ.1 81 j := fun j => by
        rw [← hζ, fm_wr]
        by_cases e : j = q
        · rw [if_pos ⟨rfl, e⟩, if_pos e]
        · rw [if_neg (fun z => e z.2), if_neg e, F3.at 81, F2.at 81, v81, if_neg e]
      have FF : fm_F [65, 66, 67, 68, 70, 81, 82] μ ζ := (((F1.up : fm_F [65, 66, 67, 68, 70, 81, 82] μ μ2).tr F2.up).tr F3.up).tr F4.up
      by_cases c8 : q = 8
      · rw [if_pos (e8.mpr c8), fm_bind]
        refine (fx_findPlan (μ := ζ) (can := fp_can C.1 L (C.2.2.2.1 0)) (n := L.1.length) (f := f) (by rw [F4.at 65, F3.at 65]; exact hP.1) l10 f1 f99 (by unfold xF at hx ⊢; rw [F4.at 70]; exact hx)).mono ?_
        intro o ⟨O, P, P1, P2, P3⟩
        rw [fm_some, fm_rd (by omega) (by omega), fm_bs, fm_some, O.at 81, z81, if_pos rfl]
        exact ⟨f, f1, rfl, FF.tr O.up, kp.up wc at0 (fun j hj => by rw [O.at 81, z81, if_neg hj]) (by rw [O.at 81, z81, if_pos rfl]) f1 (fun ne => absurd c8 ne) (fun _ _ => ⟨P, P1, P2, P3⟩), rfl⟩
      · rw [if_neg (fun z => c8 (e8.mp z)), fm_some, fm_rd (by omega) (by omega), fm_bs, fm_some, z81, if_pos rfl]
        exact ⟨f, f1, rfl, FF, kp.up wc at0 (fun j hj => by rw [z81, if_neg hj]) (by rw [z81, if_pos rfl]) f1 (fun _ => by rw [F4.at 82, F3.at 82, F2.at 82, F1.at 82]) (fun z => absurd z c8), rfl⟩
    · rw [fB0 say, if_pos rfl, fm_bs, fm_rd (by omega) (by omega), fm_bs, fm_some, v81, if_pos rfl]
      have f1 : fp_few (fp_can C.1 L (C.2.2.2.1 0)) (fp_all L) 99 := Or.inr ⟨rfl, fun k hk => say ⟨k, hk⟩⟩
      exact ⟨99, f1, rfl, F1.up, kp.up wc at0 (fun j hj => by rw [v81, if_neg hj]) (by rw [v81, if_pos rfl]; rfl) f1 (fun _ => F1.at 82) (fun _ z => absurd z (by omega)), rfl⟩
  · have ne := fp_ans_ne a0 a10 f1
    rw [f2, if_neg ne, fm_bs, fm_rd (by omega) (by omega), fm_bs, fm_some, f2]
    exact ⟨f, f1, rfl, fm_F.rf, kp, rfl⟩
theorem fx_pulls0 {μ : fw_M} {C : fm_C} (xs : xS 1 μ C) (n0 : C.2.1.1.length = 0) : f_X_pullsFor 8 μ = some (-2, μ) := by
  unfold f_X_pullsFor
  rw [if_pos rfl, fm_bs, if_pos fh_ok6, show μ.1 6 1 = nI C.2.1.1.length from xs.2.1.1.1, n0, if_pos (show nI 0 = 0 from rfl)]
theorem fp_ans98 {f : Nat} (h : f ≤ 10 ∨ f = 99) : (if nI f ≤ 98 then nI f else (-4 : Int32)) = fp_ans f := by
  unfold fp_ans
  rcases h with h | h
  · rw [if_pos (show nI f ≤ 98 from (nI_leI (b := 98) (by omega) (by omega)).mpr (by omega)), if_pos (by omega)]
  · rw [h]; rfl
theorem fo_fewest : fw_O_fewest fm_I := by
  intro n μx μm hn hI
  have hI2 := hI.up
  obtain ⟨⟨C, wc, xs, ms, kp⟩, im, tp, sh, rk⟩ := hI
  have l2 : μm.1 0 6 = nI C.2.1.1.length := ms.2.1.1.1
  have l10 := wc.2.1.1
  unfold f_X_fewest f_M_fewest
  by_cases n0 : C.2.1.1.length = 0
  · rw [fx_pulls0 xs n0, fm_bs, l2, n0, if_pos (show nI 0 = 0 from rfl)]
    exact ⟨_, _, _, rfl, rfl, hI2⟩
  · obtain ⟨k, hk, rkn⟩ := rk.n
    obtain ⟨⟨r, νx⟩, e1, f, f1, rfl, F, kp2, -⟩ := fx_pulls (q := 8) wc xs kp (Or.inl ⟨rfl, rfl, rfl⟩) n0
    obtain ⟨⟨r2, νm⟩, e2, ⟨f2, e3, f3⟩, G, Z, ⟨k2, kk, rk2⟩, -⟩ := fy_few (fm_hM ms) wc.1.w2 wc.2.1 wc.2.2.2.1.1 rkn (by omega)
    simp only at F kp2 e3 G Z rk2
    subst e3
    have := fp_few_un f1 f3
    subst this
    rw [show f_X_pullsFor 8 μx = some (fp_ans f, νx) from e1, fm_bs, l2, if_neg (nI_ne0 (by omega) (by omega)), e2, fm_bs, fm_nmE]
    simp only
    rw [fp_ans98 (fp_few_10 (fp_all_b wc.2.1 n0).2 f1)]
    exact ⟨_, _, _, rfl, rfl, fm_mk wc (xs.cong (F.rg 1 31) wc.2.2.2.2.1.1) (ms.cong (Z 0 (by decide)) (Z 6 (by decide)) (Z 8 (by decide)) (Z 9 (by decide)) (Z 11 (by decide)) (G.rg 1 9)) kp2 im tp sh (rk2.k (by omega)) F G (Z 15 (by decide)) (Z 32 (by decide))⟩
theorem fo_plan : fw_O_plan fm_I := by
  intro n μx μm hn hI a1
  have hI2 := hI.up
  obtain ⟨⟨C, wc, xs, ms, kp⟩, im, tp, sh, rk⟩ := hI
  have l2 : μm.1 0 6 = nI C.2.1.1.length := ms.2.1.1.1
  have l10 := wc.2.1.1
  have hne : ¬ C.2.1.1.length = 0 → ¬ nI C.2.1.1.length = 0 := fun z => nI_ne0 (by omega) (by omega)
  unfold f_X_plan f_M_plan
  rw [fh_inN (a := a1) (c := 9) 10 rfl (by omega)]
  by_cases g : 0 ≤ a1 ∧ a1 < nI 10
  · rw [if_neg (Int32.not_lt.mpr g.1), if_pos (show a1 < 10 from g.2), if_pos g, fm_bs, if_neg fm_n10]
    by_cases n0 : C.2.1.1.length = 0
    · rw [fx_pulls0 xs n0, fm_bs, l2, n0, if_pos (show nI 0 = 0 from rfl), if_neg (show ¬ (0 : Int32) ≤ -2 by decide)]
      exact ⟨_, _, _, rfl, rfl, hI2⟩
    · obtain ⟨k, hk, rkn⟩ := rk.n
      obtain ⟨⟨r, νx⟩, e1, f, f1, rfl, F, kp2, v8⟩ := fx_pulls (q := 8) wc xs kp (Or.inl ⟨rfl, rfl, rfl⟩) n0
      obtain ⟨⟨r2, νm⟩, e2, f2, e3, f3, G, Z, ⟨k2, kk, rk2⟩, hP⟩ := fy_plans (fm_hM ms) wc.1.w2 wc.2.1 wc.2.2.2.1.1 rkn (by omega)
      simp only at F kp2 v8 e3 G Z rk2 hP
      subst e3
      have := fp_few_un f1 f3
      subst this
      have f10 := fp_few_10 (fp_all_b wc.2.1 n0).2 f1
      have I3 : fm_I (n + 1) νx νm := fm_mk wc (xs.cong (F.rg 1 31) wc.2.2.2.2.1.1) (ms.cong (Z 0 (by decide)) (Z 6 (by decide)) (Z 8 (by decide)) (Z 9 (by decide)) (Z 11 (by decide)) (G.rg 1 9)) kp2 im tp sh (rk2.k (by omega)) F G (Z 15 (by decide)) (Z 32 (by decide))
      rw [show f_X_pullsFor 8 μx = some (fp_ans f, νx) from e1, fm_bs, l2, if_neg (hne n0), e2, fm_bs]
      simp only
      by_cases f99 : f = 99
      · subst f99
        rw [if_neg (show ¬ 0 ≤ fp_ans 99 by decide), if_pos (show 98 < nI 99 by decide), fm_bs]
        exact ⟨_, _, _, rfl, rfl, I3⟩
      · have ea : fp_ans f = nI f := by unfold fp_ans; rw [if_pos (by omega)]
        obtain ⟨j, hj, rfl⟩ := fh_cs (n := 10) (by omega) g
        rw [ea, if_pos (nI_pos' (by omega)), if_neg (show ¬ 98 < nI f from fun z => by have := (nI_ltI (a := 98) (by omega) (by omega)).mp z; omega)]
        by_cases c : f ≤ j
        · rw [if_pos (nI_le c (by omega)), if_neg (nI_nlt c (by omega)), fm_bs, fm_bs]
          exact ⟨_, _, _, rfl, rfl, I3⟩
        · rw [if_neg (nI_ge (by omega) (by omega)), if_pos (nI_lt (by omega) (by omega)), fm_rd hj (by omega), fm_bs, fm_bs, fm_rd hj (by omega), fm_bs, fm_bs]
          obtain ⟨P, P1, P2, P3⟩ := hP (by omega)
          rcases kp2.2 with z | ⟨f4, g1, g2, g3⟩
          · rw [v8] at z
            exact absurd z (fp_ans_ne (fp_all_b wc.2.1 n0).1 (fp_all_b wc.2.1 n0).2 f1)
          · have := fp_few_un f1 g1
            subst this
            obtain ⟨P5, Q1, Q2, Q3⟩ := g3 (by omega)
            have := fp_plan_un (by rw [P1, Q1]) P2 Q2
            subst this
            rw [P3 j (by omega), Q3 j (by omega)]
            exact ⟨_, _, _, rfl, rfl, I3⟩
  · rw [if_neg g, fm_bs, if_pos rfl]
    by_cases c : a1 < 0
    · rw [if_pos c]; exact ⟨_, _, _, rfl, rfl, hI2⟩
    · rw [if_neg c, if_neg (show ¬ a1 < 10 from fun z => g ⟨Int32.not_lt.mp c, z⟩)]
      exact ⟨_, _, _, rfl, rfl, hI2⟩
/-! needsOf -/
def hN (μ : fw_M) (T : List fm_Ty) (X : List (Nat × fm_Li)) (w : Nat) : Prop := rT (μ.1 0 0) (μ.1 1) (μ.1 2) (μ.1 3) T ∧ mX μ.1 X ∧ μ.1 5 0 = nI w
theorem hN.cong {μ ν : fw_M} {T : List fm_Ty} {X : List (Nat × fm_Li)} {w : Nat} {l : List Nat} (h : hN μ T X w) (F : fm_F l μ ν) (z0 : ν.1 0 0 = μ.1 0 0) (z9 : ν.1 0 9 = μ.1 0 9) (d : fm_no l [1, 2, 3, 5, 7] := by decide) : hN ν T X w := by
  have d3 : fm_no l [1, 2, 3] := by
    apply List.all_eq_true.mpr
    intro x hx
    exact List.all_eq_true.mp d x (by
      simp only [List.mem_cons, List.not_mem_nil, or_false] at hx ⊢
      omega)
  exact ⟨dT h.1 F z0 d3, h.2.1.cong z9 (F 7 (fm_no_at d (by decide))), by rw [F 5 (fm_no_at d (by decide))]; exact h.2.2⟩
theorem fy_cpA {μ : fw_M} : fm_T (fw_wh f_M_needsOf_L24 fw_N (0, μ)) (fun ν => fm_F [22] μ ν ∧ (∀ i, i < 10 → ν.1 22 i = μ.1 6 i) ∧ ∀ i, 10 ≤ i → ν.1 22 i = μ.1 22 i) := by
  refine fm_up (P := fun i s => s.1 = nI i ∧ fm_F [22] μ s.2 ∧ (∀ j, j < i → s.2.1 22 j = μ.1 6 j) ∧ ∀ j, i ≤ j → s.2.1 22 j = μ.1 22 j) 10 ?_ ?_ 0 (Nat.zero_le _) ⟨rfl, fm_F.rf, fun j hj => absurd hj (Nat.not_lt_zero _), fun _ _ => rfl⟩ (by omega)
  · rintro i ⟨x, ν⟩ hi ⟨e1, F, a1, a2⟩
    simp only at e1 F a1 a2
    subst e1
    unfold f_M_needsOf_L24
    try dsimp only
    rw [if_neg (fh_nge (c := 10) (b := 10) rfl hi (by omega)), fm_rd (by omega) (by omega), fm_bs, fm_si (by omega) (by omega), fm_bs, fm_nm, fm_some, fm_Kl]
    refine ⟨nI_1 i, F.wr, fun j hj => ?_, fun j hj => by rw [fm_wr, if_neg (by omega)]; exact a2 j (by omega)⟩
    by_cases e : j = i
    · rw [fm_wr, if_pos ⟨rfl, e⟩, F.at 6, e]
    · rw [fm_wr, if_neg (fun z => e z.2)]; exact a1 j (by omega)
  · rintro ⟨x, ν⟩ ⟨e1, F, a1, a2⟩
    simp only at e1 F a1 a2
    subst e1
    unfold f_M_needsOf_L24
    try dsimp only
    rw [if_pos (show (10 : Int32) ≤ nI 10 by decide), fm_some, fm_Kr]
    exact ⟨F, a1, a2⟩
theorem fy_cpB {μ : fw_M} {k n : Nat} (h6 : μ.1 0 6 = nI n) (hn : n ≤ 10) (hk : k < 8) : fm_T (fw_wh (f_M_needsOf_L78 (nI k)) fw_N (0, μ)) (fun ν => fm_F [6] μ ν ∧ ∀ i, i < n → ν.1 6 i = μ.1 7 (13 * k + 3 + i)) := by
  refine fm_up (P := fun i s => s.1 = nI i ∧ fm_F [6] μ s.2 ∧ ∀ j, j < i → s.2.1 6 j = μ.1 7 (13 * k + 3 + j)) n ?_ ?_ 0 (Nat.zero_le _) ⟨rfl, fm_F.rf, fun j hj => absurd hj (Nat.not_lt_zero _)⟩ (by omega)
  · rintro i ⟨x, ν⟩ hi ⟨e1, F, a1⟩
    simp only at e1 F a1
    subst e1
    unfold f_M_needsOf_L78
    try dsimp only
    rw [F.at 0, h6, if_neg (nI_ge hi (by omega)), show (13 : Int32) = nI 13 from rfl, show (3 : Int32) = nI 3 from rfl, pk_mul, nI_add, nI_add, fm_rd (by omega) (by omega), fm_bs, fm_si (by omega) (by omega), fm_bs, fm_nm, fm_some, fm_Kl]
    refine ⟨nI_1 i, F.wr, fun j hj => ?_⟩
    by_cases e : j = i
    · rw [fm_wr, if_pos ⟨rfl, e⟩, F.at 7, e]
    · rw [fm_wr, if_neg (fun z => e z.2)]; exact a1 j (by omega)
  · rintro ⟨x, ν⟩ ⟨e1, F, a1⟩
    simp only at e1 F a1
    subst e1
    unfold f_M_needsOf_L78
    try dsimp only
    rw [F.at 0, h6, if_pos (nI_le (Nat.le_refl _) (by omega)), fm_some, fm_Kr]
    exact ⟨F, a1⟩
theorem fy_cpC {μ : fw_M} : fm_T (fw_wh f_M_needsOf_L140 fw_N (0, μ)) (fun ν => fm_F [6] μ ν ∧ ∀ i, i < 10 → ν.1 6 i = μ.1 22 i) := by
  refine fm_up (P := fun i s => s.1 = nI i ∧ fm_F [6] μ s.2 ∧ ∀ j, j < i → s.2.1 6 j = μ.1 22 j) 10 ?_ ?_ 0 (Nat.zero_le _) ⟨rfl, fm_F.rf, fun j hj => absurd hj (Nat.not_lt_zero _)⟩ (by omega)
  · rintro i ⟨x, ν⟩ hi ⟨e1, F, a1⟩
    simp only at e1 F a1
    subst e1
    unfold f_M_needsOf_L140
    try dsimp only
    rw [if_neg (fh_nge (c := 10) (b := 10) rfl hi (by omega)), fm_rd (by omega) (by omega), fm_bs, fm_si (by omega) (by omega), fm_bs, fm_nm, fm_some, fm_Kl]
    refine ⟨nI_1 i, F.wr, fun j hj => ?_⟩
    by_cases e : j = i
    · rw [fm_wr, if_pos ⟨rfl, e⟩, F.at 22, e]
    · rw [fm_wr, if_neg (fun z => e z.2)]; exact a1 j (by omega)
  · rintro ⟨x, ν⟩ ⟨e1, F, a1⟩
    simp only at e1 F a1
    subst e1
    unfold f_M_needsOf_L140
    try dsimp only
    rw [if_pos (show (10 : Int32) ≤ nI 10 by decide), fm_some, fm_Kr]
    exact ⟨F, a1⟩
theorem fy_needs {μ : fw_M} {T : List fm_Ty} {X : List (Nat × fm_Li)} {w k m : Nat} (h : hN μ T X w) (wt : wT2 T) (wx : wX X) (hw : w ≤ 1) (hm : m < X.length) (hk : rKn k μ) (kb : k + 1024 < 2000000000) : fm_T (f_M_needsOf (nI m) μ) (fun p => ∃ f, p.1 = nI f ∧ fp_few (fp_can T (fm_xx X m).2 w) (fp_all (fm_xx X m).2) f ∧ fm_F [0, 6, 13, 15, 16, 22] μ p.2 ∧ (∀ j, j ≠ 21 → p.2.1 0 j = μ.1 0 j) ∧ (∀ i, i < 10 → p.2.1 6 i = μ.1 6 i) ∧ ∃ k2, k2 ≤ k + 1024 ∧ rKn k2 p.2) := by
  have h8 := wx.1
  obtain ⟨x1, x2, x3⟩ := wx.2 m hm
  obtain ⟨y1, y2, y3, y4⟩ := h.2.1.2 m hm
  have l10 := x2.1
  unfold f_M_needsOf
  rw [show (fw_si 12 μ 22 10 (μ.1 0 6)) = some (fw_wr μ 22 10 (μ.1 0 6)) from fm_si (j := 10) (by omega) (by omega), fm_bs, fm_wrn (show 0 ≠ 22 by decide), show (fw_si 12 (fw_wr μ 22 10 (μ.1 0 6)) 22 11 (μ.1 0 8)) = some (fw_wr (fw_wr μ 22 10 (μ.1 0 6)) 22 11 (μ.1 0 8)) from fm_si (j := 11) (by omega) (by omega), fm_bs, fm_bind]
  refine fy_cpA.mono ?_
  intro ν1 ⟨F1, a1, a2⟩
  have G1 : fm_F [22] μ ν1 := ((fm_F.rf.wr).wr : fm_F [22] μ _).tr F1
  have a3 : ∀ i, i < 10 → ν1.1 22 i = μ.1 6 i := fun i hi => by rw [a1 i hi, fm_wrn (by decide), fm_wrn (by decide)]
  have a10 : ν1.1 22 10 = μ.1 0 6 := by rw [a2 10 (by omega), fm_wr, if_neg (by decide), fm_wr, if_pos ⟨rfl, rfl⟩]
  have a11 : ν1.1 22 11 = μ.1 0 8 := by rw [a2 11 (by omega), fm_wr, if_pos ⟨rfl, rfl⟩]
  rw [show (13 : Int32) = nI 13 from rfl, pk_mul, fm_rd (by omega) (by omega), fm_bs, fm_nm, show (1 : Int32) = nI 1 from rfl, nI_add, fm_rd (by omega) (by omega), fm_bs, fm_nm, fm_wrn (show 7 ≠ 0 by decide), G1.at 7, y1, y2]
  generalize hμ2 : fw_wr (fw_wr ν1 0 6 (nI (fm_xx X m).2.1.length)) 0 8 (nI (fm_xx X m).2.2) = ν2
  have F2 : fm_F [0] ν1 ν2 := by rw [← hμ2]; exact (fm_F.rf.wr).wr
  have Z2 : ∀ j, j ≠ 6 → j ≠ 8 → ν2.1 0 j = μ.1 0 j := fun j j6 j8 => by rw [← hμ2, fm_wr, if_neg (fun z => j8 z.2), fm_wr, if_neg (fun z => j6 z.2), G1.at 0]
  have z6 : ν2.1 0 6 = nI (fm_xx X m).2.1.length := by rw [← hμ2, fm_wr, if_neg (by decide), fm_wr, if_pos ⟨rfl, rfl⟩]
  have z8 : ν2.1 0 8 = nI (fm_xx X m).2.2 := by rw [← hμ2, fm_wr, if_pos ⟨rfl, rfl⟩]
  rw [fm_bind]
  refine (fy_cpB (k := m) z6 l10 (by omega)).mono ?_
  intro ν3 ⟨F3, b1⟩
  have G3 : fm_F [0, 6, 22] μ ν3 := ((G1.up : fm_F [0, 6, 22] μ ν1).tr F2.up).tr F3.up
  have h3 : hM ν3 T (fm_xx X m).2 w := by
    refine ⟨dT h.1 G3 (by rw [F3.at 0]; exact Z2 0 (by decide) (by decide)), ⟨⟨by rw [F3.at 0]; exact z6, fun i hi => ?_⟩, by rw [F3.at 0]; exact z8⟩, by rw [G3.at 5]; exact h.2.2⟩
    rw [b1 i hi, F2.at 7, G1.at 7]
    exact y4 i hi
  rw [fm_bind]
  refine (fy_few h3 wt x2 hw (hk.up (l := 0) G3 (by rw [F3.at 0]; exact Z2 21 (by decide) (by decide))) kb).mono ?_
  rintro ⟨v, ν4⟩ ⟨⟨f, e, hf⟩, F4, Z4, ⟨k2, kk, rk4⟩, _⟩
  simp only at e F4 Z4 rk4 ⊢
  subst e
  have c10 : ν4.1 22 10 = μ.1 0 6 := by rw [F4.at 22, F3.at 22, F2.at 22]; exact a10
  have c11 : ν4.1 22 11 = μ.1 0 8 := by rw [F4.at 22, F3.at 22, F2.at 22]; exact a11
  rw [show (fw_rd 12 (ν4.1 22) 10) = some (ν4.1 22 10) from fm_rd (j := 10) (by omega) (by omega), fm_bs, fm_nm, fm_wrn (show 22 ≠ 0 by decide), show (fw_rd 12 (ν4.1 22) 11) = some (ν4.1 22 11) from fm_rd (j := 11) (by omega) (by omega), fm_bs, fm_nm, c10, c11, fm_bind]
  generalize hμ5 : fw_wr (fw_wr ν4 0 6 (μ.1 0 6)) 0 8 (μ.1 0 8) = ν5
  have F5 : fm_F [0] ν4 ν5 := by rw [← hμ5]; exact (fm_F.rf.wr).wr
  have Z5 : ∀ j, j ≠ 21 → ν5.1 0 j = μ.1 0 j := fun j hj => by
    by_cases e8 : j = 8
    · rw [← hμ5, fm_wr, if_pos ⟨rfl, e8⟩, e8]
    · by_cases e6 : j = 6
      · rw [← hμ5, fm_wr, if_neg (fun z => e8 z.2), fm_wr, if_pos ⟨rfl, e6⟩, e6]
      · rw [← hμ5, fm_wr, if_neg (fun z => e8 z.2), fm_wr, if_neg (fun z => e6 z.2), Z4 j hj, F3.at 0]
        exact Z2 j e6 e8
  have z21 : ν5.1 0 21 = ν4.1 0 21 := by rw [← hμ5, fm_wr, if_neg (by decide), fm_wr, if_neg (by decide)]
  refine fy_cpC.mono ?_
  intro ν6 ⟨F6, d1⟩
  rw [fm_some]
  refine ⟨f, rfl, hf, (((G3.up : fm_F [0, 6, 13, 15, 16, 22] μ ν3).tr F4.up).tr F5.up).tr F6.up, fun j hj => by rw [F6.at 0]; exact Z5 j hj, fun i hi => ?_, k2, kk, (rk4.up (l := 0) F5 z21).up (l := 0) F6 (by rw [F6.at 0])⟩
  rw [d1 i hi, F5.at 22, F4.at 22, F3.at 22, F2.at 22]
  exact a3 i hi
theorem mS.nd {μ ν : fw_M} {C : fm_C} (wc : wC C) (h : mS μ.1 C) (F : fm_F [0, 6, 13, 15, 16, 22] μ ν) (Z : ∀ j, j ≠ 21 → ν.1 0 j = μ.1 0 j) (h6 : ∀ i, i < 10 → ν.1 6 i = μ.1 6 i) : mS ν.1 C := by
  refine mS.cong2 wc h (fun j hj => Z j (by omega)) (fun k k1 k9 j hj => ?_)
  by_cases e : k = 6
  · subst e; exact h6 j hj
  · rw [F k (by simp; omega)]
theorem fo_needs : fw_O_needs fm_I := by
  intro n μx μm hn hI a1
  have hI2 := hI.up
  obtain ⟨⟨C, wc, xs, ms, kp⟩, im, tp, sh, rk⟩ := hI
  have h8 := wc.2.2.2.2.1.1
  have e1 : μx.1 1 6 = nI C.2.2.2.2.1.length := xs.2.2.2.2.1.1
  have e3 : μm.1 0 9 = nI C.2.2.2.2.1.length := ms.2.2.2.2.1.1
  unfold f_X_needs f_M_needs
  rw [fh_hasText, e1, e3, show nI C.2.2.2.2.1.length - 1 = nD C.2.2.2.2.1.length from rfl, fh_inN C.2.2.2.2.1.length rfl (by omega)]
  by_cases g : 0 ≤ a1 ∧ a1 < nI C.2.2.2.2.1.length
  · obtain ⟨q, hq, rfl⟩ := fh_cs (by omega) g
    obtain ⟨x1, x2, x3⟩ := wc.2.2.2.2.1.2 q hq
    obtain ⟨k, hk, rkn⟩ := rk.n
    obtain ⟨⟨r, νx⟩, e4, f, f1, rfl, F, kp2, -⟩ := fx_pulls (q := q) wc xs kp (Or.inr ⟨hq, rfl, rfl⟩) (by omega)
    obtain ⟨⟨r2, νm⟩, e5, f2, e6, f3, G, Z, h6, ⟨k2, kk, rk2⟩⟩ := fy_needs ⟨ms.1, ms.2.2.2.2.1, ms.2.2.2.1 0 (by omega)⟩ wc.1.w2 wc.2.2.2.2.1 wc.2.2.2.1.1 hq rkn (by omega)
    simp only at F kp2 e6 G Z h6 rk2
    subst e6
    have := fp_few_un f1 f3
    subst this
    rw [if_pos g, fm_bs, if_neg fm_n10, e4, fm_bs, fm_bs, fm_bs, if_neg fm_n10, e5, fm_bs, fm_nmE]
    simp only
    rw [fp_ans98 (fp_few_10 (fp_all_b x2 (by omega)).2 f1)]
    exact ⟨_, _, _, rfl, rfl, fm_mk wc (xs.cong (F.rg 1 31) wc.2.2.2.2.1.1) (mS.nd wc ms G Z h6) kp2 im tp sh (rk2.k (by omega)) F G (Z 15 (by decide)) (Z 32 (by decide))⟩
  · rw [if_neg g]
    exact ⟨_, _, _, rfl, rfl, hI2⟩
