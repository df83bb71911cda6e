/-! types from the tape -/
abbrev mo (k l c : Nat) : Prop := (k = 1 ∧ isLe c ∧ c - 97 ≠ l) ∨ (k = 2 ∧ isLe c) ∨ (k = 3 ∧ 49 ≤ c ∧ c ≤ 57)
def mv (k c : Nat) : Nat := if k = 3 then c - 48 else c - 97
/-- the kind that a sign tells: 4 for none -/
def kd (c : Nat) : Nat := if c = 109 then 3 else if c = 110 then 2 else if c = 116 then 1 else if isLe c then 0 else 4
/-- one type, read from a on: a fault, or where it ends -/
def pCl (t : List Nat) (a : Nat) : Nat ⊕ (Nat × fm_Ty) :=
  if sk t a < t.length ∧ kd (fm_bb t (sk t a)) < 4 then
    (if kd (fm_bb t (sk t a)) = 0 then .inr (sk t a + 1, 0, fm_bb t (sk t a) - 97, 0)
    else if sk t (sk t a + 1) < t.length ∧ isLe (fm_bb t (sk t (sk t a + 1))) then
      (if sk t (sk t (sk t a + 1) + 1) < t.length ∧ mo (kd (fm_bb t (sk t a))) (fm_bb t (sk t (sk t a + 1)) - 97) (fm_bb t (sk t (sk t (sk t a + 1) + 1))) then .inr (sk t (sk t (sk t a + 1) + 1) + 1, kd (fm_bb t (sk t a)), fm_bb t (sk t (sk t a + 1)) - 97, mv (kd (fm_bb t (sk t a))) (fm_bb t (sk t (sk t (sk t a + 1) + 1))))
      else .inl (sk t (sk t (sk t a + 1) + 1)))
    else .inl (sk t (sk t a + 1)))
  else .inl (sk t a)
def pca (t : List Nat) : Nat → Nat → List fm_Ty → Nat ⊕ List fm_Ty
  | 0, a, _ => .inl a
  | k + 1, a, T => match pCl t a with
    | .inl e => .inl e
    | .inr (b, ty) => if sk t b < t.length then (if fm_bb t (sk t b) = 44 ∧ T.length + 1 < 10 then pca t k (sk t b + 1) (T ++ [ty]) else .inl (sk t b)) else .inr (T ++ [ty])
theorem mo_ok {k l c : Nat} (hl : l < 12) (h : mo k l c) : fm_ok (k, l, mv k c) := by
  refine ⟨hl, ?_⟩
  rcases h with ⟨rfl, ⟨a, b⟩, d⟩ | ⟨rfl, a, b⟩ | ⟨rfl, a, b⟩
  · right; left; exact ⟨rfl, by show c - 97 < 12; omega, d⟩
  · right; right; left; exact ⟨rfl, by show c - 97 < 12; omega⟩
  · right; right; right; exact ⟨rfl, by show 1 ≤ c - 48; omega, by show c - 48 ≤ 9; omega⟩
theorem fh_le97 {c : Nat} (h : c ≤ 126) : (0 ≤ nI c - 97 ∧ nI c - 97 < 12) ↔ isLe c := by
  have h1 := fh_97 h
  rw [fh_isLetter] at h1
  have h2 := Option.some.inj h1
  constructor
  · intro z
    rw [if_pos z] at h2
    by_cases q : isLe c
    · exact q
    · rw [if_neg q] at h2; exact absurd h2 fm_n10
  · intro z
    rw [if_pos z] at h2
    by_cases q : (0 ≤ nI c - 97 ∧ nI c - 97 < 12)
    · exact q
    · rw [if_neg q] at h2; exact absurd h2.symm fm_n10
theorem fh_kind {c : Nat} (h : c ≤ 126) : f_Tape_kindOf (nI c) = some (if kd c < 4 then nI (kd c) else -1) := by
  unfold f_Tape_kindOf kd
  have e1 : nI c = 109 ↔ c = 109 := nI_eq (b := 109) (by omega) (by omega)
  have e2 : nI c = 110 ↔ c = 110 := nI_eq (b := 110) (by omega) (by omega)
  have e3 : nI c = 116 ↔ c = 116 := nI_eq (b := 116) (by omega) (by omega)
  simp only [e1, e2, e3]
  by_cases c1 : c = 109
  · simp only [c1, if_true]; rfl
  by_cases c2 : c = 110
  · simp only [c2, if_true]; rfl
  by_cases c3 : c = 116
  · simp only [c3, if_true]; rfl
  simp only [c1, c2, c3, if_false]
  rw [fh_97 h, fm_bs]
  by_cases q : isLe c
  · rw [if_pos q, if_pos q]; rfl
  · rw [if_neg q, if_neg q]; rfl
theorem fh_mv {k l c : Nat} (h : mo k l c) : nI c - (if nI k = 3 then 48 else 97) = nI (mv k c) := by
  rcases h with ⟨rfl, ⟨a, b⟩, d⟩ | ⟨rfl, a, b⟩ | ⟨rfl, a, b⟩
  · rw [if_neg (show ¬ nI 1 = 3 by decide)]; exact pk_sub (b := 97) a
  · rw [if_neg (show ¬ nI 2 = 3 by decide)]; exact pk_sub (b := 97) a
  · rw [if_pos (show nI 3 = 3 from rfl)]; exact pk_sub (b := 48) (by omega)
theorem fh_mo {k l c : Nat} (k3 : k ≤ 3) (hl : l < 12) (hc : c ≤ 126) (k0 : 1 ≤ k) : f_Case_fits (nI k) (nI l) (nI c - (if nI k = 3 then 48 else 97)) = some (if mo k l c then 1 else 0) := by
  by_cases h : mo k l c
  · rw [if_pos h, fh_mv h]
    exact fh_fits1 (fh_nat_ty (mo_ok hl h))
  · rw [if_neg h]
    refine fh_fits0 (fun z => h ?_)
    rcases z.2 with ⟨a, b⟩ | ⟨a, b, d⟩ | ⟨a, b⟩ | ⟨a, b⟩
    · have := (nI_eq (b := 0) (show k < 2147483648 by omega) (by omega)).mp a; omega
    · have e := (nI_eq (b := 1) (show k < 2147483648 by omega) (by omega)).mp a
      subst e
      rw [if_neg (show ¬ nI 1 = 3 by decide)] at b d
      have le := (fh_le97 hc).mp b
      refine Or.inl ⟨rfl, le, fun y => d ?_⟩
      rw [← y]; exact pk_sub (b := 97) le.1
    · have e := (nI_eq (b := 2) (show k < 2147483648 by omega) (by omega)).mp a
      subst e
      rw [if_neg (show ¬ nI 2 = 3 by decide)] at b
      exact Or.inr (Or.inl ⟨rfl, (fh_le97 hc).mp b⟩)
    · have e := (nI_eq (b := 3) (show k < 2147483648 by omega) (by omega)).mp a
      subst e
      rw [if_pos (show nI 3 = 3 from rfl)] at b
      refine Or.inr (Or.inr ⟨rfl, ?_⟩)
      by_cases q : 48 ≤ c
      · rw [show nI c - 48 = nI (c - 48) from pk_sub (b := 48) q] at b
        have b1 := (nI_leI (a := 1) (b := c - 48) (by omega) (by omega)).mp b.1
        have b2 := (nI_leI (a := c - 48) (b := 9) (by omega) (by omega)).mp b.2
        omega
      · have b1 : nI c - 48 < 0 := pk_sneg (b := 48) (by omega) (by omega)
        exact absurd (Int32.lt_of_lt_of_le b1 (show (0 : Int32) ≤ 1 by decide)) (Int32.not_lt.mpr b.1)
theorem fh_moE {k l : Nat} (k3 : k ≤ 3) (k0 : 1 ≤ k) : f_Case_fits (nI k) (nI l) (-1 - (if nI k = 3 then 48 else 97)) = some 0 := by
  refine fh_fits0 (fun z => ?_)
  have hk : k = 1 ∨ k = 2 ∨ k = 3 := by omega
  rcases hk with rfl | rfl | rfl
  · rw [if_neg (show ¬ nI 1 = 3 by decide)] at z
    rcases z.2 with ⟨a, b⟩ | ⟨a, b, d⟩ | ⟨a, b⟩ | ⟨a, b⟩
    · exact absurd a (by decide)
    · exact absurd b.1 (by decide)
    · exact absurd a (by decide)
    · exact absurd a (by decide)
  · rw [if_neg (show ¬ nI 2 = 3 by decide)] at z
    rcases z.2 with ⟨a, b⟩ | ⟨a, b, d⟩ | ⟨a, b⟩ | ⟨a, b⟩
    · exact absurd a (by decide)
    · exact absurd a (by decide)
    · exact absurd b.1 (by decide)
    · exact absurd a (by decide)
  · rw [if_pos (show nI 3 = 3 from rfl)] at z
    rcases z.2 with ⟨a, b⟩ | ⟨a, b, d⟩ | ⟨a, b⟩ | ⟨a, b⟩
    · exact absurd a (by decide)
    · exact absurd a (by decide)
    · exact absurd a (by decide)
    · exact absurd b.1 (by decide)
def xC (μ : fw_M) (T : List fm_Ty) : Prop := rT (μ.1 77 3) (μ.1 78) (μ.1 79) (μ.1 80) T
theorem xC.F {l : List Nat} {μ ν : fw_M} {T : List fm_Ty} (h : xC μ T) (F : fm_F l μ ν) (d : fm_no l [77, 78, 79, 80] := by decide) : xC ν T := by
  unfold xC at *
  rw [F 77 (fm_no_at d (by decide)), F 78 (fm_no_at d (by decide)), F 79 (fm_no_at d (by decide)), F 80 (fm_no_at d (by decide))]
  exact h
theorem fx_cadd {μ : fw_M} {T : List fm_Ty} {a b c : Nat} (h : xC μ T) (hl : T.length < 10) : fm_T (f_Case_add_77 (nI a) (nI b) (nI c) μ) (fun ν => fm_F [77, 78, 79, 80] μ ν ∧ xC ν (T ++ [(a, b, c)])) := by
  unfold f_Case_add_77
  have h1 : μ.1 77 3 = nI T.length := h.1
  rw [h1, if_neg (fh_nge (c := 10) (b := 10) rfl hl (by omega)), fm_si hl (by omega), fm_bs, fm_wrn (by decide), h1, fm_si hl (by omega), fm_bs, fm_wrn (by decide), fm_wrn (by decide), h1, fm_si hl (by omega), fm_bs, fm_wrn (by decide), fm_wrn (by decide), fm_wrn (by decide), h1, fm_nmE, fm_bs, fm_some]
  refine ⟨(((fm_F.rf.wr).wr).wr).wr, ?_⟩
  unfold xC
  rw [show (fw_wr (fw_wr (fw_wr (fw_wr μ 78 T.length (nI a)) 79 T.length (nI b)) 80 T.length (nI c)) 77 3 (nI T.length + 1)).1 77 3 = nI (T.length + 1) by rw [fm_wr, if_pos ⟨rfl, rfl⟩, nI_1]]
  refine rT.add h (fun i hi => ?_) (fun i hi => ?_) (fun i hi => ?_) ?_ ?_ ?_
  · rw [fm_wrn (by decide), fm_wrn (by decide), fm_wrn (by decide), fm_wr, if_neg (by omega)]
  · rw [fm_wrn (by decide), fm_wrn (by decide), fm_wr, if_neg (by omega), fm_wrn (by decide)]
  · rw [fm_wrn (by decide), fm_wr, if_neg (by omega), fm_wrn (by decide), fm_wrn (by decide)]
  · rw [fm_wrn (by decide), fm_wrn (by decide), fm_wrn (by decide), fm_wr, if_pos ⟨rfl, rfl⟩]
  · rw [fm_wrn (by decide), fm_wrn (by decide), fm_wr, if_pos ⟨rfl, rfl⟩]
  · rw [fm_wrn (by decide), fm_wr, if_pos ⟨rfl, rfl⟩]
theorem xT.nx {μ : fw_M} {t : List Nat} {a : Nat} (h : xT μ t a) : xT (fw_wr μ 63 2 ((μ.1 63 2) + 1)) t (a + 1) := ⟨⟨by rw [fm_wr, if_neg (by decide)]; exact h.1.1, fun i hi => by rw [fm_wrn (by decide)]; exact h.1.2 i hi⟩, by rw [fm_wr, if_pos ⟨rfl, rfl⟩, h.2, nI_1]⟩
theorem xT.F {l : List Nat} {μ ν : fw_M} {t : List Nat} {a : Nat} (h : xT μ t a) (F : fm_F l μ ν) (d : fm_no l [63, 64] := by decide) : xT ν t a := by
  unfold xT at *
  rw [F 63 (fm_no_at d (by decide)), F 64 (fm_no_at d (by decide))]
  exact h
/-- the class reads one type -/
theorem fx_rtype {μ : fw_M} {t : List Nat} {a : Nat} {T : List fm_Ty} (h : xT μ t a) (wt : wB t) (ha : a ≤ t.length) (hc : xC μ T) (hl : T.length < 10) : fm_T (f_Tape_readType μ) (fun p => fm_F [63, 77, 78, 79, 80] μ p.2 ∧ (∀ j, j ≠ 2 → p.2.1 63 j = μ.1 63 j) ∧ ((∃ e, pCl t a = .inl e ∧ e ≤ t.length ∧ p.1 = 0 ∧ xT p.2 t e) ∨ (∃ b ty, pCl t a = .inr (b, ty) ∧ a < b ∧ b ≤ t.length ∧ fm_ok ty ∧ p.1 = 1 ∧ xT p.2 t b ∧ xC p.2 (T ++ [ty])))) := by
  have h60 := wt.1
  unfold f_Tape_readType pCl
  rw [fm_bind]
  refine (fx_next h wt ha).mono ?_
  rintro ⟨sg, ξ⟩ ⟨es, G, GZ, xt⟩
  simp only at es G GZ xt
  subst es
  obtain ⟨k1, k2, k3⟩ := sk_p ha
  simp only
  have G' : fm_F [63, 77, 78, 79, 80] μ ξ := G.up
  by_cases en : sk t a < t.length
  · obtain ⟨c1, c2⟩ := wt.2 _ en
    simp only [en, if_true, true_and]
    rw [fh_kind c2, fm_bs]
    by_cases kk : kd (fm_bb t (sk t a)) < 4
    · rw [if_pos kk, if_neg (fm_nne (by omega)), fm_nm, if_pos kk]
      have xt1 := xt.nx
      generalize hζ : fw_wr ξ 63 2 ((ξ.1 63 2) + 1) = ζ at xt1
      have FZ : fm_F [63, 77, 78, 79, 80] μ ζ := by rw [← hζ]; exact G'.wr
      have ZZ : ∀ j, j ≠ 2 → ζ.1 63 j = μ.1 63 j := fun j hj => by rw [← hζ, fm_wr, if_neg (fun z => hj z.2)]; exact GZ j hj
      have cz : xC ζ T := by
        have : fm_F [63] μ ζ := by rw [← hζ]; exact G.wr
        exact hc.F this
      by_cases k0 : kd (fm_bb t (sk t a)) = 0
      · have le : isLe (fm_bb t (sk t a)) := by
          unfold kd at k0
          by_cases q1 : fm_bb t (sk t a) = 109
          · rw [if_pos q1] at k0; omega
          by_cases q2 : fm_bb t (sk t a) = 110
          · rw [if_neg q1, if_pos q2] at k0; omega
          by_cases q3 : fm_bb t (sk t a) = 116
          · rw [if_neg q1, if_neg q2, if_pos q3] at k0; omega
          by_cases q4 : isLe (fm_bb t (sk t a))
          · exact q4
          · rw [if_neg q1, if_neg q2, if_neg q3, if_neg q4] at k0; omega
        rw [k0, if_pos (show nI 0 = 0 from rfl), if_pos rfl, show nI (fm_bb t (sk t a)) - 97 = nI (fm_bb t (sk t a) - 97) from pk_sub (b := 97) le.1, fm_bind]
        refine (fx_cadd (a := 0) (c := 0) cz hl).mono ?_
        intro o ⟨O, co⟩
        rw [fm_some]
        refine ⟨FZ.tr O.up, fun j hj => by rw [O.at 63]; exact ZZ j hj, Or.inr ⟨_, _, rfl, by omega, by omega, ⟨?_, Or.inl ⟨rfl, rfl⟩⟩, rfl, xt1.F O, co⟩⟩
        have := le.2
        show fm_bb t (sk t a) - 97 < 12
        omega
      · rw [if_neg (nI_ne0 (by omega) (by omega)), if_neg k0, fm_bind]
        refine (fx_next xt1 wt (by omega)).mono ?_
        rintro ⟨sg2, ξ2⟩ ⟨es2, G2, GZ2, xt2⟩
        simp only at es2 G2 GZ2 xt2
        subst es2
        obtain ⟨j1, j2, j3⟩ := sk_p (show sk t a + 1 ≤ t.length by omega)
        simp only
        have F2 : fm_F [63, 77, 78, 79, 80] μ ξ2 := FZ.tr G2.up
        have Z2 : ∀ j, j ≠ 2 → ξ2.1 63 j = μ.1 63 j := fun j hj => (GZ2 j hj).trans (ZZ j hj)
        have c2' : xC ξ2 T := cz.F G2
        rw [fm_nm]
        by_cases en2 : sk t (sk t a + 1) < t.length
        · obtain ⟨d1, d2⟩ := wt.2 _ en2
          simp only [en2, if_true, true_and]
          rw [fh_97 d2, fm_bs]
          by_cases le : isLe (fm_bb t (sk t (sk t a + 1)))
          · rw [if_pos le, if_neg fm_n10, if_pos le, fm_nm, fm_bind]
            have l12 : fm_bb t (sk t (sk t a + 1)) - 97 < 12 := by have := le.2; omega
            have xt3 := xt2.nx
            generalize hζ2 : fw_wr ξ2 63 2 ((ξ2.1 63 2) + 1) = ζ2 at xt3
            have FZ2 : fm_F [63, 77, 78, 79, 80] μ ζ2 := by rw [← hζ2]; exact F2.wr
            have ZZ2 : ∀ j, j ≠ 2 → ζ2.1 63 j = μ.1 63 j := fun j hj => by rw [← hζ2, fm_wr, if_neg (fun z => hj z.2)]; exact Z2 j hj
            have cz2 : xC ζ2 T := by
              have : fm_F [63] ξ2 ζ2 := by rw [← hζ2]; exact fm_F.rf.wr
              exact c2'.F this
            refine (fx_next xt3 wt (by omega)).mono ?_
            rintro ⟨sg3, ξ3⟩ ⟨es3, G3, GZ3, xt4⟩
            simp only at es3 G3 GZ3 xt4
            subst es3
            obtain ⟨i1, i2, i3⟩ := sk_p (show sk t (sk t a + 1) + 1 ≤ t.length by omega)
            simp only
            have F3 : fm_F [63, 77, 78, 79, 80] μ ξ3 := FZ2.tr G3.up
            have Z3 : ∀ j, j ≠ 2 → ξ3.1 63 j = μ.1 63 j := fun j hj => (GZ3 j hj).trans (ZZ2 j hj)
            have c3' : xC ξ3 T := cz2.F G3
            rw [fm_nm, fm_nm, show nI (fm_bb t (sk t (sk t a + 1))) - 97 = nI (fm_bb t (sk t (sk t a + 1)) - 97) from pk_sub (b := 97) le.1]
            by_cases en3 : sk t (sk t (sk t a + 1) + 1) < t.length
            · obtain ⟨b1, b2⟩ := wt.2 _ en3
              rw [if_pos en3, fh_mo (by omega) l12 b2 (by omega), fm_bs]
              by_cases mm : mo (kd (fm_bb t (sk t a))) (fm_bb t (sk t (sk t a + 1)) - 97) (fm_bb t (sk t (sk t (sk t a + 1) + 1)))
              · rw [fh_mv mm, if_pos mm, if_neg fm_n10, fm_nm, if_pos (show _ ∧ _ from ⟨en3, mm⟩), fm_bind]
                have xt5 := xt4.nx
                generalize hζ3 : fw_wr ξ3 63 2 ((ξ3.1 63 2) + 1) = ζ3 at xt5
                have FZ3 : fm_F [63, 77, 78, 79, 80] μ ζ3 := by rw [← hζ3]; exact F3.wr
                have ZZ3 : ∀ j, j ≠ 2 → ζ3.1 63 j = μ.1 63 j := fun j hj => by rw [← hζ3, fm_wr, if_neg (fun z => hj z.2)]; exact Z3 j hj
                have cz3 : xC ζ3 T := by
                  have : fm_F [63] ξ3 ζ3 := by rw [← hζ3]; exact fm_F.rf.wr
                  exact c3'.F this
                refine (fx_cadd cz3 hl).mono ?_
                intro o ⟨O, co⟩
                rw [fm_some]
                exact ⟨FZ3.tr O.up, fun j hj => by rw [O.at 63]; exact ZZ3 j hj, Or.inr ⟨_, _, rfl, by omega, by omega, mo_ok l12 mm, rfl, xt5.F O, co⟩⟩
              · rw [if_neg mm, if_pos rfl, if_neg (fun z => mm z.2), fm_some]
                exact ⟨F3, Z3, Or.inl ⟨_, rfl, i2, rfl, xt4⟩⟩
            · rw [if_neg en3, fh_moE (by omega) (by omega), fm_bs, if_pos rfl, if_neg (fun z => en3 z.1), fm_some]
              exact ⟨F3, Z3, Or.inl ⟨_, rfl, i2, rfl, xt4⟩⟩
          · rw [if_neg le, if_pos rfl, if_neg le, fm_some]
            exact ⟨F2, Z2, Or.inl ⟨_, rfl, j2, rfl, xt2⟩⟩
        · simp only [en2, if_false, false_and]
          rw [show f_X_isLetter (-1 - 97) = some 0 by rw [fh_isLetter]; rfl, fm_bs, if_pos rfl, fm_some]
          exact ⟨F2, Z2, Or.inl ⟨_, rfl, j2, rfl, xt2⟩⟩
    · rw [if_neg kk, if_pos rfl, if_neg kk, fm_some]
      exact ⟨G', GZ, Or.inl ⟨_, rfl, k2, rfl, xt⟩⟩
  · simp only [en, if_false, false_and]
    rw [show f_Tape_kindOf (-1) = some (-1) by decide, fm_bs, if_pos rfl, fm_some]
    exact ⟨G', GZ, Or.inl ⟨_, rfl, k2, rfl, xt⟩⟩
