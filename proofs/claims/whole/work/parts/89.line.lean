/-! the reference reads -/
def yW (μ : fw_M) (t : List Nat) (a : Nat) : Prop := yT μ t a ∧ μ.1 0 17 = 0
theorem fw17 {μ : fw_M} {v : Int32} : (fw_wr μ 0 17 v).1 0 17 = v := by rw [fm_wr, if_pos ⟨rfl, rfl⟩]
theorem fw16 {μ : fw_M} {v : Int32} : (fw_wr μ 0 17 v).1 0 16 = μ.1 0 16 := by rw [fm_wr, if_neg (by decide)]
theorem fy_byte {μ : fw_M} {t : List Nat} {a lo hi : Nat} {but : Int32} (h : yW μ t a) (wt : wB t) (ha : a ≤ t.length) (l1 : 1 ≤ lo) (h200 : hi < 200) (hlo : lo ≤ hi) : fm_T (f_M_byteOf (nI lo) (nI hi) but μ) (fun p => fm_F [0] μ p.2 ∧ (∀ j, j ≠ 16 → j ≠ 17 → p.2.1 0 j = μ.1 0 j) ∧ ((sk t a < t.length ∧ lo ≤ fm_bb t (sk t a) ∧ fm_bb t (sk t a) ≤ hi ∧ nI (fm_bb t (sk t a) - lo) ≠ but ∧ p.1 = nI (fm_bb t (sk t a) - lo) ∧ yW p.2 t (sk t a + 1)) ∨ (¬ (sk t a < t.length ∧ lo ≤ fm_bb t (sk t a) ∧ fm_bb t (sk t a) ≤ hi ∧ nI (fm_bb t (sk t a) - lo) ≠ but) ∧ yT p.2 t (sk t a) ∧ p.2.1 0 17 = 1))) := by
  unfold f_M_byteOf
  rw [h.2, if_pos rfl, fm_bind, fm_bind]
  refine (fy_here h.1 wt ha).mono ?_
  rintro ⟨v, ν⟩ ⟨ev, F, Z, yt⟩
  simp only at ev F Z yt
  subst ev
  obtain ⟨k1, k2, k3⟩ := sk_p ha
  rw [fm_some]
  have z17 : ν.1 0 17 = 0 := (Z 17 (by decide)).trans h.2
  simp only
  rw [z17, if_pos rfl, fh_in (lo := nI lo) (hi := nI hi) rfl rfl, fm_bs]
  have wr : ∀ w : Int32, w = 1 ∨ w = 0 → fm_F [0] μ (fw_wr ν 0 17 w) := fun w _ => F.wr
  have fail : fm_T ((some (1 : Int32)).bind fun (j22 : Int32) => (fw_bz j22).bind fun b51 => fw_nm (fw_wr ν 0 17 b51) fun (μ51 : fw_M) => fw_nm (if (μ51.1 0 17) = 0 then (1 : Int32) else 0) fun (j63 : Int32) => fw_nm (fw_wr μ51 0 16 ((μ51.1 0 16) + j63)) fun (μ72 : fw_M) => some ((if sk t a < t.length then nI (fm_bb t (sk t a)) else 0) - nI lo, μ72)) (fun p => fm_F [0] μ p.2 ∧ (∀ j, j ≠ 16 → j ≠ 17 → p.2.1 0 j = μ.1 0 j) ∧ yT p.2 t (sk t a) ∧ p.2.1 0 17 = 1) := by
    rw [fm_bs, fm_bz1, fm_bs, fm_nm, fw17, if_neg fm_n10, fm_nm, fm_nm, fm_some, fw16, yt.2]
    refine ⟨(F.wr).wr, fun j j1 j2 => by rw [fm_wr, if_neg (fun z => j1 z.2), fm_wr, if_neg (fun z => j2 z.2)]; exact Z j j1, ⟨⟨by rw [fm_wr, if_neg (by decide), fm_wr, if_neg (by decide)]; exact yt.1.1, fun i hi => by rw [fm_wrn (by decide), fm_wrn (by decide)]; exact yt.1.2 i hi⟩, by rw [fm_wr, if_pos ⟨rfl, rfl⟩, show (0 : Int32) = nI 0 from rfl, nI_add, Nat.add_zero]⟩, by rw [fm_wr, if_neg (by decide), fm_wr, if_pos ⟨rfl, rfl⟩]⟩
  by_cases en : sk t a < t.length
  · obtain ⟨c1, c2⟩ := wt.2 (sk t a) en
    simp only [en, if_true, true_and] at fail ⊢
    by_cases r : lo ≤ fm_bb t (sk t a) ∧ fm_bb t (sk t a) ≤ hi
    · rw [if_pos (show nI lo ≤ nI (fm_bb t (sk t a)) ∧ nI (fm_bb t (sk t a)) ≤ nI hi from ⟨nI_le r.1 (by omega), nI_le r.2 (by omega)⟩), if_neg fm_n10]
      by_cases b : nI (fm_bb t (sk t a)) - nI lo = but
      · rw [if_pos b]
        refine fail.mono (fun p hp => ⟨hp.1, hp.2.1, Or.inr ⟨fun z => z.2.2 (by rw [← pk_sub r.1]; exact b), hp.2.2⟩⟩)
      · rw [if_neg b, fm_bs, fm_bz0, fm_bs, fm_nm, fw17, if_pos rfl, fm_nm, fm_nm, fm_some, fw16, yt.2, pk_sub r.1]
        rw [pk_sub r.1] at b
        refine ⟨(F.wr).wr, fun j j1 j2 => by rw [fm_wr, if_neg (fun z => j1 z.2), fm_wr, if_neg (fun z => j2 z.2)]; exact Z j j1, Or.inl ⟨r.1, r.2, b, rfl, ⟨⟨by rw [fm_wr, if_neg (by decide), fm_wr, if_neg (by decide)]; exact yt.1.1, fun i hi => by rw [fm_wrn (by decide), fm_wrn (by decide)]; exact yt.1.2 i hi⟩, by rw [fm_wr, if_pos ⟨rfl, rfl⟩, nI_1]⟩, by rw [fm_wr, if_neg (by decide), fm_wr, if_pos ⟨rfl, rfl⟩]⟩⟩
    · rw [if_neg (show ¬ (nI lo ≤ nI (fm_bb t (sk t a)) ∧ nI (fm_bb t (sk t a)) ≤ nI hi) from fun z => r ⟨(nI_leI (by omega) (by omega)).mp z.1, (nI_leI (by omega) (by omega)).mp z.2⟩), if_pos rfl]
      exact fail.mono (fun p hp => ⟨hp.1, hp.2.1, Or.inr ⟨fun z => r ⟨z.1, z.2.1⟩, hp.2.2⟩⟩)
  · simp only [en, if_false, false_and] at fail ⊢
    rw [if_neg (show ¬ (nI lo ≤ 0 ∧ (0 : Int32) ≤ nI hi) from fun z => by have := (nI_leI (b := 0) (show lo < 2147483648 by omega) (by omega)).mp z.1; omega), if_pos rfl]
    exact fail.mono (fun p hp => ⟨hp.1, hp.2.1, Or.inr ⟨fun z => z, hp.2.2⟩⟩)
theorem fy_byteW {μ : fw_M} {lo hi but : Int32} (h : μ.1 0 17 = 1) : fm_T (f_M_byteOf lo hi but μ) (fun p => fm_F [0] μ p.2 ∧ ∀ j, p.2.1 0 j = μ.1 0 j) := by
  unfold f_M_byteOf
  rw [h, if_neg fm_n10, fm_bs]
  simp only
  rw [h, if_neg fm_n10, fm_bs, fm_bz1, fm_bs, fm_nm, fw17, if_neg fm_n10, fm_nm, fm_nm, fm_some]
  refine ⟨(fm_F.rf.wr).wr, fun j => ?_⟩
  by_cases e : j = 16
  · rw [fm_wr, if_pos ⟨rfl, e⟩, fm_wr, if_neg (by decide), e, show (0 : Int32) = nI 0 from rfl]
    apply Int32.toBitVec_inj.mp
    show (μ.1 0 16).toBitVec + 0#32 = _
    simp
  · rw [fm_wr, if_neg (fun z => e z.2)]
    by_cases e2 : j = 17
    · rw [fm_wr, if_pos ⟨rfl, e2⟩, e2, h]
    · rw [fm_wr, if_neg (fun z => e2 z.2)]
theorem fy_has {μ : fw_M} {t : List Nat} {a c : Nat} (h : yW μ t a) (wt : wB t) (ha : a ≤ t.length) (c1 : 1 ≤ c) (c2 : c < 200) : fm_T (f_M_has (nI c) μ) (fun p => fm_F [0] μ p.2 ∧ (∀ j, j ≠ 16 → p.2.1 0 j = μ.1 0 j) ∧ ((sk t a < t.length ∧ fm_bb t (sk t a) = c ∧ p.1 = 1 ∧ yW p.2 t (sk t a + 1)) ∨ (¬ (sk t a < t.length ∧ fm_bb t (sk t a) = c) ∧ p.1 = 0 ∧ yW p.2 t (sk t a)))) := by
  unfold f_M_has
  rw [h.2, if_pos rfl, fm_bind, fm_bind]
  refine (fy_here h.1 wt ha).mono ?_
  rintro ⟨v, ν⟩ ⟨ev, F, Z, yt⟩
  simp only at ev F Z yt
  subst ev
  have z17 : ν.1 0 17 = 0 := (Z 17 (by decide)).trans h.2
  simp only
  by_cases q : sk t a < t.length ∧ fm_bb t (sk t a) = c
  · simp only [q.1, if_true, q.2]
    rw [fm_some, if_neg fm_n10, fm_nm, fm_nm, fm_bz1, fm_bs, fm_some, yt.2]
    refine ⟨F.wr, fun j j1 => by rw [fm_wr, if_neg (fun z => j1 z.2)]; exact Z j j1, Or.inl ⟨trivial, trivial, rfl, ⟨⟨by rw [fm_wr, if_neg (by decide)]; exact yt.1.1, fun i hi => by rw [fm_wrn (by decide)]; exact yt.1.2 i hi⟩, by rw [fm_wr, if_pos ⟨rfl, rfl⟩, nI_1]⟩, by rw [fm_wr, if_neg (by decide)]; exact z17⟩⟩
  · have ne : ¬ (if sk t a < t.length then nI (fm_bb t (sk t a)) else 0) = nI c := fun z => by
      by_cases e : sk t a < t.length
      · rw [if_pos e] at z
        have c3 := (wt.2 _ e).2
        exact q ⟨e, (nI_eq (by omega) (by omega)).mp z⟩
      · rw [if_neg e] at z
        have := (nI_eq (a := 0) (by omega) (by omega)).mp z
        omega
    rw [if_neg ne, fm_some, if_pos rfl, fm_nm, fm_nm, fm_bz0, fm_bs, fm_some, yt.2]
    refine ⟨F.wr, fun j j1 => by rw [fm_wr, if_neg (fun z => j1 z.2)]; exact Z j j1, Or.inr ⟨q, rfl, ⟨⟨by rw [fm_wr, if_neg (by decide)]; exact yt.1.1, fun i hi => by rw [fm_wrn (by decide)]; exact yt.1.2 i hi⟩, by rw [fm_wr, if_pos ⟨rfl, rfl⟩, show (0 : Int32) = nI 0 from rfl, nI_add, Nat.add_zero]⟩, by rw [fm_wr, if_neg (by decide)]; exact z17⟩⟩
theorem fy_hasW {μ : fw_M} {c : Int32} (h : μ.1 0 17 = 1) : fm_T (f_M_has c μ) (fun p => p.1 = 0 ∧ fm_F [0] μ p.2 ∧ ∀ j, p.2.1 0 j = μ.1 0 j) := by
  unfold f_M_has
  rw [h, if_neg fm_n10, fm_bs]
  simp only
  rw [if_pos trivial, fm_nm, fm_nm, fm_bz0, fm_bs, fm_some]
  refine ⟨rfl, fm_F.rf.wr, fun j => ?_⟩
  by_cases e : j = 16
  · rw [fm_wr, if_pos ⟨rfl, e⟩, e]
    apply Int32.toBitVec_inj.mp
    show (μ.1 0 16).toBitVec + 0#32 = _
    simp
  · rw [fm_wr, if_neg (fun z => e z.2)]
/-- where the reference's loop ends -/
def yEnd (t : List Nat) (r0 : fpr) (L : fm_Li) (ν : fw_M) : Prop := (∃ a, a ≤ t.length ∧ yT ν t a ∧ ν.1 0 17 = 1 ∧ r0 = .inl a) ∨ (∃ a, a ≤ t.length ∧ yW ν t a ∧ r0 = if sk t a < t.length then .inl (sk t a) else .inr L)
theorem fy_lineL {μ : fw_M} {t : List Nat} (h : yW μ t 0) (wt : wB t) : fm_T (fw_wh f_M_line_L16 fw_N (0, 0, 1, μ)) (fun p => ∃ (n : Nat) (L : fm_Li), n ≤ 10 ∧ p.1 = nI n ∧ p.2.1 = nI L.2 ∧ fm_F [0, 11] μ p.2.2 ∧ (∀ j, j ≠ 16 → j ≠ 17 → p.2.2.1 0 j = μ.1 0 j) ∧ (∀ L2, ppl t (t.length + 1) 0 ([], 0) = .inr L2 → L2 = L ∧ n = L.1.length ∧ ∀ i, i < n → p.2.2.1 11 i = nI (L.1.getD i 0)) ∧ yEnd t (ppl t (t.length + 1) 0 ([], 0)) L p.2.2) := by
  have h60 := wt.1
  generalize hr0 : ppl t (t.length + 1) 0 ([], 0) = r0
  refine fm_wh (P := fun m st => ∃ (n : Nat) (L : fm_Li), n ≤ 10 ∧ st.1 = nI n ∧ st.2.1 = nI L.2 ∧ L.2 < 1024 ∧ fm_F [0, 11] μ st.2.2.2 ∧ (∀ j, j ≠ 16 → j ≠ 17 → st.2.2.2.1 0 j = μ.1 0 j) ∧ ((st.2.2.1 = 1 ∧ n < 10 ∧ n = L.1.length ∧ (∀ i, i < n → st.2.2.2.1 11 i = nI (L.1.getD i 0)) ∧ ∃ a k, a ≤ t.length ∧ m = t.length + 2 - a ∧ t.length < k + a ∧ yW st.2.2.2 t a ∧ ppl t k a L = r0) ∨ (st.2.2.1 = 0 ∧ m = 0 ∧ (∀ L2, r0 = .inr L2 → L2 = L ∧ n = L.1.length ∧ ∀ i, i < n → st.2.2.2.1 11 i = nI (L.1.getD i 0)) ∧ yEnd t r0 L st.2.2.2))) ?_ (i := t.length + 2) ⟨0, ([], 0), by omega, rfl, rfl, by show 0 < 1024; omega, fm_F.rf, fun _ _ _ => rfl, Or.inl ⟨rfl, by omega, rfl, fun i hi => absurd hi (Nat.not_lt_zero _), 0, t.length + 1, Nat.zero_le _, rfl, by omega, h, hr0⟩⟩ (by omega)
  rintro m ⟨x1, x2, x3, ν⟩ ⟨n, L, n10, e1, e2, L1, F, Z, cs⟩
  simp only at e1 e2 F Z cs
  subst e1 e2
  unfold f_M_line_L16
  try dsimp only
  rcases cs with ⟨e3, nlt, nl, rd, a, k, ha, rfl, hk, yw, pl⟩ | ⟨e3, rfl, fin, ye⟩
  · subst e3
    obtain ⟨s1, s2, s3⟩ := sk_p ha
    obtain ⟨k', rfl⟩ : ∃ k', k = k' + 1 := ⟨k - 1, by omega⟩
    rw [ppl] at pl
    rw [if_neg fm_n10, show (97 : Int32) = nI 97 from rfl, show (108 : Int32) = nI 108 from rfl, fm_bind]
    refine (fy_byte (but := -1) yw wt ha (by omega) (by omega) (by omega)).mono ?_
    rintro ⟨v, ξ⟩ ⟨G, GZ, alt⟩
    simp only at G GZ alt
    have FX : fm_F [0, 11] μ ξ := F.tr G.up
    have ZX : ∀ j, j ≠ 16 → j ≠ 17 → ξ.1 0 j = μ.1 0 j := fun j j1 j2 => (GZ j j1 j2).trans (Z j j1 j2)
    simp only
    rw [fm_si (by omega) (by omega), fm_bs, fm_nm, nI_1]
    generalize hζ : fw_wr ξ 11 n v = ζ
    have FZ : fm_F [0, 11] μ ζ := by rw [← hζ]; exact FX.wr
    have Z0 : ζ.1 0 = ξ.1 0 := by rw [← hζ, fm_wrn (by decide)]
    have Z10 : ζ.1 10 = ξ.1 10 := by rw [← hζ, fm_wrn (by decide)]
    have yk : ∀ {a}, yT ξ t a → yT ζ t a := fun hy => by unfold yT at *; rw [Z0, Z10]; exact hy
    have ZZ : ∀ j, j ≠ 16 → j ≠ 17 → ζ.1 0 j = μ.1 0 j := fun j j1 j2 => by rw [Z0]; exact ZX j j1 j2
    rcases alt with ⟨q1, q2, q3, _, rfl, qw⟩ | ⟨q1, qt, qw⟩
    · rw [if_pos ⟨q1, q2, q3⟩] at pl
      have yw2 : yW ζ t (sk t a + 1) := ⟨yk qw.1, by rw [Z0]; exact qw.2⟩
      have rd2 : ∀ i, i < n + 1 → ζ.1 11 i = nI ((L.1 ++ [fm_bb t (sk t a) - 97]).getD i 0) := fun i hi => by
        rw [← hζ]
        by_cases e : i < n
        · rw [fm_wr, if_neg (by omega), G.at 11, rd i e, show (L.1 ++ [fm_bb t (sk t a) - 97]).getD i 0 = L.1.getD i 0 from fm_gDa (by omega)]
        · rw [show i = n by omega, fm_wr, if_pos ⟨rfl, rfl⟩, nl, show (L.1 ++ [fm_bb t (sk t a) - 97]).getD L.1.length 0 = fm_bb t (sk t a) - 97 from fm_gDl]
      have len2 : (L.1 ++ [fm_bb t (sk t a) - 97]).length = n + 1 := by rw [List.length_append, List.length_singleton, nl]
      obtain ⟨u1, u2, u3⟩ := sk_p (show sk t a + 1 ≤ t.length by omega)
      by_cases c10 : n + 1 < 10
      · unfold pmd at pl
        rw [len2, if_pos c10] at pl
        rw [if_neg (fh_nge (c := 10) (b := 10) rfl c10 (by omega)), show (95 : Int32) = nI 95 from rfl, fm_bind, fm_bind]
        refine (fy_has yw2 wt (by omega) (by omega) (by omega)).mono ?_
        rintro ⟨v2, o⟩ ⟨O, OZ, alt2⟩
        simp only at O OZ alt2
        have FO : fm_F [0, 11] μ o := FZ.tr O.up
        have ZO : ∀ j, j ≠ 16 → j ≠ 17 → o.1 0 j = μ.1 0 j := fun j j1 j2 => (OZ j j1).trans (ZZ j j1 j2)
        have rdo : ∀ i, i < n + 1 → o.1 11 i = nI ((L.1 ++ [fm_bb t (sk t a) - 97]).getD i 0) := fun i hi => by rw [O.at 11]; exact rd2 i hi
        rcases alt2 with ⟨p1, p2, rfl, p3⟩ | ⟨p1, rfl, p3⟩
        · rw [if_pos p1, if_pos p2] at pl
          simp only
          rw [if_neg fm_n10, fm_some]
          simp only
          rw [fm_nm, if_neg fm_n10, fm_pred (by omega), show n + 1 - 1 = n by omega, fm_one (by omega), fm_nm, fm_or, p3.2, if_pos rfl, if_neg (fh_nge (c := 10) (b := 10) rfl c10 (by omega)), if_neg fm_n10, fm_bs, fm_some, fm_Kl]
          refine ⟨t.length + 2 - (sk t (sk t a + 1) + 1), by omega, n + 1, (L.1 ++ [fm_bb t (sk t a) - 97], L.2 ||| 2 ^ n), by omega, rfl, rfl, fm_or_lt (m := 10) L1 (by omega), FO, ZO, Or.inl ⟨rfl, c10, len2.symm, rdo, sk t (sk t a + 1) + 1, k', by omega, rfl, by omega, p3, ?_⟩⟩
          rw [show n + 1 - 1 = n by omega] at pl
          exact pl
        · simp only
          rw [if_pos trivial, fm_some]
          simp only
          rw [if_pos trivial, fm_nm, show (nI L.2 ||| 0) = nI L.2 by rw [show (0 : Int32) = nI 0 from rfl, fm_or, Nat.or_zero], fm_nm, p3.2, if_pos rfl, if_neg (fh_nge (c := 10) (b := 10) rfl c10 (by omega)), if_pos trivial, fm_bind, fm_bind]
          refine (fy_here p3.1 wt (by omega)).mono ?_
          rintro ⟨v3, w⟩ ⟨ev3, W, WZ, wy⟩
          simp only at ev3 W WZ wy
          subst ev3
          rw [sk_s (by omega)] at wy
          have FW : fm_F [0, 11] μ w := FO.tr W.up
          have ZW : ∀ j, j ≠ 16 → j ≠ 17 → w.1 0 j = μ.1 0 j := fun j j1 j2 => (WZ j j1).trans (ZO j j1 j2)
          have w17 : w.1 0 17 = 0 := (WZ 17 (by decide)).trans p3.2
          have rdw : ∀ i, i < n + 1 → w.1 11 i = nI ((L.1 ++ [fm_bb t (sk t a) - 97]).getD i 0) := fun i hi => by rw [W.at 11]; exact rdo i hi
          simp only
          rw [sk_s (by omega)]
          by_cases en : sk t (sk t a + 1) < t.length
          · have n95 : ¬ fm_bb t (sk t (sk t a + 1)) = 95 := fun z => p1 ⟨en, z⟩
            rw [if_pos en, if_neg n95] at pl
            have c32 := (wt.2 _ en).1
            have c33 := (wt.2 _ en).2
            rw [if_pos en, if_neg (show ¬ nI (fm_bb t (sk t (sk t a + 1))) = 0 from fun z => by have := (nI_eq (b := 0) (by omega) (by omega)).mp z; omega), fm_some, fm_some, fm_Kl]
            exact ⟨t.length + 2 - sk t (sk t a + 1), by omega, n + 1, (L.1 ++ [fm_bb t (sk t a) - 97], L.2), by omega, rfl, rfl, L1, FW, ZW, Or.inl ⟨rfl, c10, len2.symm, rdw, sk t (sk t a + 1), k', by omega, rfl, by omega, ⟨wy, w17⟩, pl⟩⟩
          · rw [if_neg en] at pl
            rw [if_neg en, if_pos rfl, fm_some, fm_some, fm_Kl]
            refine ⟨0, by omega, n + 1, (L.1 ++ [fm_bb t (sk t a) - 97], L.2), by omega, rfl, rfl, L1, FW, ZW, Or.inr ⟨rfl, rfl, fun L2 hL2 => ?_, Or.inr ⟨sk t (sk t a + 1), by omega, ⟨wy, w17⟩, ?_⟩⟩⟩
            · rw [← pl] at hL2
              have := Sum.inr.inj hL2
              exact ⟨this.symm, len2.symm, rdw⟩
            · rw [sk_s (by omega), if_neg en]; exact pl.symm
      · unfold pmd at pl
        rw [len2, if_neg c10] at pl
        rw [if_pos (show (10 : Int32) ≤ nI (n + 1) from (nI_leI (a := 10) (by omega) (by omega)).mpr (by omega)), fm_bs]
        simp only
        rw [fm_nm, if_pos trivial, fm_nm, show (0 : Int32) = nI 0 from rfl, fm_or, Nat.or_zero, yw2.2, if_pos (show (0 : Int32) = nI 0 from rfl), if_pos (show (10 : Int32) ≤ nI (n + 1) from (nI_leI (a := 10) (by omega) (by omega)).mpr (by omega)), fm_bs, fm_some, fm_Kl]
        refine ⟨0, by omega, n + 1, (L.1 ++ [fm_bb t (sk t a) - 97], L.2), by omega, rfl, rfl, L1, FZ, ZZ, Or.inr ⟨rfl, rfl, fun L2 hL2 => ?_, Or.inr ⟨sk t a + 1, by omega, yw2, pl.symm⟩⟩⟩
        rw [← pl] at hL2
        by_cases en : sk t (sk t a + 1) < t.length
        · rw [if_pos en] at hL2; cases hL2
        · rw [if_neg en] at hL2
          have := Sum.inr.inj hL2
          exact ⟨this.symm, len2.symm, rd2⟩
    · have nl2 : ¬ (sk t a < t.length ∧ isLe (fm_bb t (sk t a))) := fun z => q1 ⟨z.1, z.2.1, z.2.2, fm_nne (by have := z.2.2; omega)⟩
      rw [if_neg nl2] at pl
      have z17 : ζ.1 0 17 = 1 := by rw [Z0]; exact qw
      have ye : ∀ (o : fw_M), (∀ j, o.1 0 j = ζ.1 0 j) → fm_F [0] ζ o → yEnd t r0 L o := fun o oz O => Or.inl ⟨sk t a, s2, ⟨⟨by rw [oz]; exact (yk qt).1.1, fun i hi => by rw [O.at 10]; exact (yk qt).1.2 i hi⟩, by rw [oz]; exact (yk qt).2⟩, by rw [oz]; exact z17, pl.symm⟩
      have done : ∀ (o : fw_M) (n2 : Nat), n2 ≤ 10 → (∀ j, o.1 0 j = ζ.1 0 j) → fm_F [0] ζ o → fm_T (some (.inl (nI n2, nI L.2, (0 : Int32), o)) : Option ((Int32 × Int32 × Int32 × fw_M) ⊕ (Int32 × Int32 × fw_M))) (fm_K (fun s1 => ∃ j, j < t.length + 2 - a ∧ ∃ (n : Nat) (L : fm_Li), n ≤ 10 ∧ s1.1 = nI n ∧ s1.2.1 = nI L.2 ∧ L.2 < 1024 ∧ fm_F [0, 11] μ s1.2.2.2 ∧ (∀ j, j ≠ 16 → j ≠ 17 → s1.2.2.2.1 0 j = μ.1 0 j) ∧ ((s1.2.2.1 = 1 ∧ n < 10 ∧ n = L.1.length ∧ (∀ i, i < n → s1.2.2.2.1 11 i = nI (L.1.getD i 0)) ∧ ∃ a k, a ≤ t.length ∧ j = t.length + 2 - a ∧ t.length < k + a ∧ yW s1.2.2.2 t a ∧ ppl t k a L = r0) ∨ (s1.2.2.1 = 0 ∧ j = 0 ∧ (∀ L2, r0 = .inr L2 → L2 = L ∧ n = L.1.length ∧ ∀ i, i < n → s1.2.2.2.1 11 i = nI (L.1.getD i 0)) ∧ yEnd t r0 L s1.2.2.2))) (fun p => ∃ (n : Nat) (L : fm_Li), n ≤ 10 ∧ p.1 = nI n ∧ p.2.1 = nI L.2 ∧ fm_F [0, 11] μ p.2.2 ∧ (∀ j, j ≠ 16 → j ≠ 17 → p.2.2.1 0 j = μ.1 0 j) ∧ (∀ L2, r0 = .inr L2 → L2 = L ∧ n = L.1.length ∧ ∀ i, i < n → p.2.2.1 11 i = nI (L.1.getD i 0)) ∧ yEnd t r0 L p.2.2)) := fun o n2 h2 oz O => by
        rw [fm_some, fm_Kl]
        exact ⟨0, by omega, n2, L, h2, rfl, rfl, L1, FZ.tr O.up, fun j j1 j2 => by rw [oz]; exact ZZ j j1 j2, Or.inr ⟨rfl, rfl, fun L2 hL2 => (by rw [← pl] at hL2; cases hL2), ye o oz O⟩⟩
      by_cases c10 : n + 1 < 10
      · rw [if_neg (fh_nge (c := 10) (b := 10) rfl c10 (by omega)), fm_bind, fm_bind]
        refine (fy_hasW z17).mono ?_
        rintro ⟨v2, o⟩ ⟨ev2, O, OZ⟩
        simp only at ev2 O OZ
        subst ev2
        simp only
        rw [if_pos trivial, fm_some]
        simp only
        rw [fm_nm, if_pos trivial, fm_nm, show (0 : Int32) = nI 0 from rfl, fm_or, Nat.or_zero, OZ 17, z17, if_neg (show ¬ (1 : Int32) = nI 0 by decide), fm_bs]
        exact done o (n + 1) (by omega) OZ O
      · rw [if_pos (show (10 : Int32) ≤ nI (n + 1) from (nI_leI (a := 10) (by omega) (by omega)).mpr (by omega)), fm_bs]
        simp only
        rw [fm_nm, if_pos trivial, fm_nm, show (0 : Int32) = nI 0 from rfl, fm_or, Nat.or_zero, z17, if_neg (show ¬ (1 : Int32) = nI 0 by decide), fm_bs]
        exact done ζ (n + 1) (by omega) (fun _ => rfl) fm_F.rf
  · subst e3
    rw [if_pos rfl, fm_some, fm_Kr]
    exact ⟨n, L, n10, rfl, rfl, F, Z, fin, ye⟩
theorem fy_lineC {μ : fw_M} {e : Int32 × Int32 × fw_M} {n : Nat} (he : e.1 = nI n) (hn : n ≤ 10) : fm_T (fw_wh (f_M_line_L167 e) fw_N (0, μ)) (fun ν => fm_F [6] μ ν ∧ ∀ i, i < n → ν.1 6 i = μ.1 11 i) := by
  refine fm_up (P := fun i s => s.1 = nI i ∧ fm_F [6] μ s.2 ∧ ∀ j, j < i → s.2.1 6 j = μ.1 11 j) n ?_ ?_ 0 (Nat.zero_le _) ⟨rfl, fm_F.rf, fun j hj => absurd hj (Nat.not_lt_zero _)⟩ (by omega)
  · rintro i ⟨x, ν⟩ hi ⟨e1, F, a1⟩
    simp only at e1 F a1
    subst e1
    unfold f_M_line_L167
    try dsimp only
    rw [he, if_neg (nI_ge hi (by omega)), fm_rd (by omega) (by omega), fm_bs, fm_si (by omega) (by omega), fm_bs, fm_nm, fm_some, fm_Kl]
    refine ⟨nI_1 i, F.wr, fun j hj => ?_⟩
    by_cases q : j = i
    · rw [fm_wr, if_pos ⟨rfl, q⟩, F.at 11, q]
    · rw [fm_wr, if_neg (fun z => q z.2)]; exact a1 j (by omega)
  · rintro ⟨x, ν⟩ ⟨e1, F, a1⟩
    simp only at e1 F a1
    subst e1
    unfold f_M_line_L167
    try dsimp only
    rw [he, if_pos (nI_le (Nat.le_refl _) (by omega)), fm_some, fm_Kr]
    exact ⟨F, a1⟩
theorem fy_line {μ : fw_M} {t : List Nat} (h : rB (μ.1 0 15) (μ.1 10) t) (wt : wB t) : fm_T (f_M_line μ) (fun p => fm_F [0, 6, 11] μ p.2 ∧ p.2.1 0 15 = 0 ∧ (∀ j, j ≠ 6 → j ≠ 8 → j ≠ 15 → j ≠ 16 → j ≠ 17 → p.2.1 0 j = μ.1 0 j) ∧ ((∃ e, ppl t (t.length + 1) 0 ([], 0) = .inl e ∧ p.1 = -20 - nI e ∧ p.2.1 0 6 = μ.1 0 6 ∧ p.2.1 0 8 = μ.1 0 8 ∧ p.2.1 6 = μ.1 6) ∨ (∃ L, ppl t (t.length + 1) 0 ([], 0) = .inr L ∧ p.1 = nI L.1.length ∧ rL (p.2.1 0 6) (p.2.1 6) L ∧ p.2.1 0 8 = nI L.2))) := by
  have h60 := wt.1
  unfold f_M_line
  rw [fm_nm, fm_nm]
  generalize hμ1 : fw_wr (fw_wr μ 0 16 0) 0 17 0 = μ1
  have F1 : fm_F [0, 6, 11] μ μ1 := by rw [← hμ1]; exact (fm_F.rf.wr).wr
  have Z1 : ∀ j, j ≠ 16 → j ≠ 17 → μ1.1 0 j = μ.1 0 j := fun j j1 j2 => by rw [← hμ1, fm_wr, if_neg (fun z => j2 z.2), fm_wr, if_neg (fun z => j1 z.2)]
  have y1 : yW μ1 t 0 := ⟨⟨⟨(Z1 15 (by decide) (by decide)).trans h.1, fun i hi => by rw [F1.at 10]; exact h.2 i hi⟩, by rw [← hμ1, fm_wr, if_neg (by decide), fm_wr, if_pos ⟨rfl, rfl⟩]; rfl⟩, by rw [← hμ1, fm_wr, if_pos ⟨rfl, rfl⟩]⟩
  rw [fm_bind]
  refine (fy_lineL y1 wt).mono ?_
  rintro ⟨x1, x2, ν⟩ ⟨n, L, n10, e1, e2, F, Z, hL, ye⟩
  simp only at e1 e2 F Z hL ye
  subst e1 e2
  simp only
  generalize hr0 : ppl t (t.length + 1) 0 ([], 0) = r0 at hL ye ⊢
  have FX : fm_F [0, 6, 11] μ ν := F1.tr F.up
  have ZX : ∀ j, j ≠ 16 → j ≠ 17 → ν.1 0 j = μ.1 0 j := fun j j1 j2 => (Z j j1 j2).trans (Z1 j j1 j2)
  have h6 : ν.1 6 = μ.1 6 := by rw [F.at 6, ← hμ1, fm_wrn (by decide), fm_wrn (by decide)]
  -- the end of a fault
  have bad : ∀ (o : fw_M) (a : Nat), fm_F [0, 6, 11] μ o → (∀ j, j ≠ 16 → j ≠ 17 → o.1 0 j = μ.1 0 j) → o.1 6 = μ.1 6 → o.1 0 16 = nI a → r0 = .inl a → fm_T ((fw_bz 1).bind fun b131 => fw_nm (fw_wr o 0 17 b131) fun (μ131 : fw_M) => fw_nm (fw_wr μ131 0 15 0) fun (μ136 : fw_M) => if (μ136.1 0 17) = 0 then fw_nm (fw_wr μ136 0 6 (nI n)) fun (μ156 : fw_M) => fw_nm (fw_wr μ156 0 8 (nI L.2)) fun (μ161 : fw_M) => (fw_wh (f_M_line_L167 (nI n, nI L.2, ν)) fw_N (0, μ161)).bind fun (e167x : fw_M) => some (nI n, e167x) else some (((-20) - (μ136.1 0 16)), μ136)) (fun p => fm_F [0, 6, 11] μ p.2 ∧ p.2.1 0 15 = 0 ∧ (∀ j, j ≠ 6 → j ≠ 8 → j ≠ 15 → j ≠ 16 → j ≠ 17 → p.2.1 0 j = μ.1 0 j) ∧ ((∃ e, r0 = .inl e ∧ p.1 = -20 - nI e ∧ p.2.1 0 6 = μ.1 0 6 ∧ p.2.1 0 8 = μ.1 0 8 ∧ p.2.1 6 = μ.1 6) ∨ (∃ L, r0 = .inr L ∧ p.1 = nI L.1.length ∧ rL (p.2.1 0 6) (p.2.1 6) L ∧ p.2.1 0 8 = nI L.2))) := fun o a O OZ o6 oa hr => by
    have ev : (fw_wr (fw_wr o 0 17 1) 0 15 0).1 0 17 = 1 := by rw [fm_wr, if_neg (by decide), fm_wr, if_pos ⟨rfl, rfl⟩]
    have ea : (fw_wr (fw_wr o 0 17 1) 0 15 0).1 0 16 = nI a := by rw [fm_wr, if_neg (by decide), fm_wr, if_neg (by decide)]; exact oa
    have ez : ∀ j, j ≠ 15 → j ≠ 16 → j ≠ 17 → (fw_wr (fw_wr o 0 17 1) 0 15 0).1 0 j = μ.1 0 j := fun j j1 j2 j3 => by rw [fm_wr, if_neg (fun z => j1 z.2), fm_wr, if_neg (fun z => j3 z.2)]; exact OZ j j2 j3
    rw [fm_bz1, fm_bs, fm_nm, fm_nm, ev, if_neg fm_n10, fm_some, ea]
    exact ⟨(O.wr).wr, by rw [fm_wr, if_pos ⟨rfl, rfl⟩], fun j _ _ j3 j4 j5 => ez j j3 j4 j5, Or.inl ⟨a, hr, rfl, ez 6 (by decide) (by decide) (by decide), ez 8 (by decide) (by decide) (by decide), by rw [fm_wrn (by decide), fm_wrn (by decide)]; exact o6⟩⟩
  rcases ye with ⟨a, ha, yt, y17, hr⟩ | ⟨a, ha, yw, hr⟩
  · rw [y17, if_neg fm_n10, fm_bs]
    exact bad ν a FX ZX h6 yt.2 hr
  · rw [yw.2, if_pos rfl, fm_bind, fm_bind]
    refine (fy_here yw.1 wt ha).mono ?_
    rintro ⟨v, o⟩ ⟨ev, O, OZ, yo⟩
    simp only at ev O OZ yo
    subst ev
    have FO : fm_F [0, 6, 11] μ o := FX.tr O.up
    have ZO : ∀ j, j ≠ 16 → j ≠ 17 → o.1 0 j = μ.1 0 j := fun j j1 j2 => (OZ j j1).trans (ZX j j1 j2)
    have o6 : o.1 6 = μ.1 6 := by rw [O.at 6]; exact h6
    by_cases en : sk t a < t.length
    · rw [if_pos en] at hr
      obtain ⟨c1, c2⟩ := wt.2 _ en
      simp only [en, if_true]
      rw [if_neg (nI_ne0 (by omega) (by omega)), fm_some]
      exact bad o (sk t a) FO ZO o6 yo.2 hr
    · rw [if_neg en] at hr
      obtain ⟨_, nl, rd⟩ := hL L hr
      simp only [en, if_false]
      rw [if_pos trivial, fm_some, fm_bz0, fm_bs, fm_nm, fm_nm]
      have ev : (fw_wr (fw_wr o 0 17 0) 0 15 0).1 0 17 = 0 := by rw [fm_wr, if_neg (by decide), fm_wr, if_pos ⟨rfl, rfl⟩]
      rw [ev, if_pos rfl, fm_nm, fm_nm, fm_bind]
      generalize hw : fw_wr (fw_wr (fw_wr (fw_wr o 0 17 0) 0 15 0) 0 6 (nI n)) 0 8 (nI L.2) = w
      have FW : fm_F [0, 6, 11] μ w := by rw [← hw]; exact (((FO.wr).wr).wr).wr
      have w11 : w.1 11 = ν.1 11 := by rw [← hw, fm_wrn (by decide), fm_wrn (by decide), fm_wrn (by decide), fm_wrn (by decide), O.at 11]
      have wz : ∀ j, j ≠ 6 → j ≠ 8 → j ≠ 15 → j ≠ 16 → j ≠ 17 → w.1 0 j = μ.1 0 j := fun j j1 j2 j3 j4 j5 => by
        rw [← hw, fm_wr, if_neg (fun z => j2 z.2), fm_wr, if_neg (fun z => j1 z.2), fm_wr, if_neg (fun z => j3 z.2), fm_wr, if_neg (fun z => j5 z.2)]
        exact ZO j j4 j5
      have w15 : w.1 0 15 = 0 := by rw [← hw, fm_wr, if_neg (by decide), fm_wr, if_neg (by decide), fm_wr, if_pos ⟨rfl, rfl⟩]
      have w6 : w.1 0 6 = nI n := by rw [← hw, fm_wr, if_neg (by decide), fm_wr, if_pos ⟨rfl, rfl⟩]
      have w8 : w.1 0 8 = nI L.2 := by rw [← hw, fm_wr, if_pos ⟨rfl, rfl⟩]
      refine (fy_lineC (e := (nI n, nI L.2, ν)) rfl n10).mono ?_
      intro z ⟨H, zr⟩
      rw [fm_some]
      refine ⟨FW.tr H.up, by rw [H.at 0]; exact w15, fun j j1 j2 j3 j4 j5 => by rw [H.at 0]; exact wz j j1 j2 j3 j4 j5, Or.inr ⟨L, hr, by rw [nl], ⟨by rw [H.at 0, w6, nl], fun i hi => ?_⟩, by rw [H.at 0]; exact w8⟩⟩
      rw [zr i (by omega), w11, rd i (by omega)]
      rfl
theorem fo_line : fw_O_line fm_I := by
  intro n μx μm hn hI
  obtain ⟨⟨C, wc, xs, ms, kp⟩, im, ⟨t, wt, tx, tm⟩, sh, rk⟩ := hI
  have h60 := wt.1
  unfold f_X_line
  obtain ⟨⟨r, νx⟩, ex, F, Z, alt⟩ := fx_rline tx wt
  obtain ⟨⟨r2, νm⟩, em, G, z15, GZ, alt2⟩ := fy_line tm wt
  simp only at F Z alt G z15 GZ alt2
  rw [ex, fm_bs, fm_nmE]
  simp only
  have nil : ∀ {p : Nat → Prop} (i : Nat), i < 0 → p i := fun i hi => absurd hi (Nat.not_lt_zero _)
  have tape : ∀ (o : fw_M), o.1 63 1 = 0 → fm_tape o νm := fun o ho => ⟨[], ⟨by decide, nil⟩, ⟨ho, nil⟩, ⟨z15, nil⟩⟩
  rcases alt with ⟨e, e1, e2, rfl⟩ | ⟨L, e1, rfl, n1, wl, xl⟩
  · rcases alt2 with ⟨e3, f1, rfl, f2, f3, f4⟩ | ⟨L2, f1, _⟩
    · rw [e1] at f1
      have := Sum.inl.inj f1
      subst this
      have neg : (-20 : Int32) - nI e ≤ 0 := by
        rw [Int32.le_iff_toInt_le]
        have : ((-20 : Int32) - nI e).toInt = -20 - (e : Int) := by
          have h1 : (-20 : Int32) = nI 0 - nI 20 := rfl
          rw [h1, fi_sub, pk_sub_toInt (by omega) (by omega)]
          omega
        rw [this, show (0 : Int32).toInt = 0 from rfl]
        omega
      rw [if_pos neg, fm_bs]
      refine ⟨_, _, _, rfl, em, ?_⟩
      have FF : fm_F [63, 75, 76] μx (fw_wr νx 63 1 0) := F.wr
      refine ⟨⟨C, wc, xs.cong (FF.rg 1 31) wc.2.2.2.2.1.1, ?_, kp.cong (FF.at 81) (FF.at 82)⟩, im.cong (FF.at 0) (FF.rg 32 62) (GZ 32 (by decide) (by decide) (by decide) (by decide) (by decide)) (G.at 23), tape _ (by rw [fm_wr, if_pos ⟨rfl, rfl⟩]), fm_sheets sh (FF.rg 86 93) (G.at 24) (G.at 25) (G.at 26), rk.st G (GZ 21 (by decide) (by decide) (by decide) (by decide) (by decide))⟩
      refine ms.cong (GZ 0 (by decide) (by decide) (by decide) (by decide) (by decide)) f2 f3 (GZ 9 (by decide) (by decide) (by decide) (by decide) (by decide)) (GZ 11 (by decide) (by decide) (by decide) (by decide) (by decide)) (fun k k1 k2 => ?_)
      by_cases q : k = 6
      · rw [q]; exact f4
      · exact G k (by simp; omega)
    · rw [e1] at f1; cases f1
  · rcases alt2 with ⟨e3, f1, _⟩ | ⟨L2, f1, rfl, f2, f3⟩
    · rw [e1] at f1; cases f1
    · rw [e1] at f1
      have := Sum.inr.inj f1
      subst this
      have l10 := wl.1
      rw [if_neg (nI_nle (by omega) (by omega))]
      obtain ⟨o, eo, o1, o2, o3, o4⟩ := fx_ltake (t0 := 6) (t1 := 75) (μ := fw_wr νx 63 1 0) fh_ok6 fh_ok75 (by decide) (by decide) (by decide)
      rw [eo, fm_bs, show (fw_si 9 o 81 8 0) = some (fw_wr o 81 8 0) from fm_si (j := 8) (by omega) (by omega), fm_bs, fm_bs]
      have xl2 : xL 75 (fw_wr νx 63 1 0) L := xl.cong (fm_wrn (by decide)) (fm_wrn (by decide))
      have xl6 : xL 6 o L := xL.tk wl xl2 o2 o3 o4
      have FF : fm_F [6, 7, 63, 75, 76, 81] μx (fw_wr o 81 8 0) := by
        refine fm_F.wr (fun k hk => ?_)
        rw [o1 k (fun z => hk (by rw [z]; decide)) (fun z => hk (by rw [z]; decide)), fm_wrn (fun z => hk (by rw [z]; decide))]
        exact F k (fun z => hk (by simp at z ⊢; omega))
      have o63 : (fw_wr o 81 8 0).1 63 1 = 0 := by rw [fm_wrn (by decide), o1 63 (by decide) (by decide), fm_wr, if_pos ⟨rfl, rfl⟩]
      refine ⟨_, _, _, rfl, em, ?_⟩
      refine ⟨⟨(C.1, L, C.2.2), ⟨wc.1, wl, wc.2.2⟩, ⟨cT xs.1 FF, xl6.cong (fm_wrn (by decide)) (fm_wrn (by decide)), cW xs.2.2.1 FF, cR xs.2.2.2.1 FF, cX xs.2.2.2.2.1 FF wc.2.2.2.2.1.1 FF.c1, cJ xs.2.2.2.2.2 FF⟩, ⟨dT ms.1 G (GZ 0 (by decide) (by decide) (by decide) (by decide) (by decide)), ⟨f2, f3⟩, dW ms.2.2.1 G, dR ms.2.2.2.1 G, dX ms.2.2.2.2.1 G (GZ 9 (by decide) (by decide) (by decide) (by decide) (by decide)), dJ ms.2.2.2.2.2 G (GZ 11 (by decide) (by decide) (by decide) (by decide) (by decide))⟩, ?_⟩, im.cong (FF.at 0) (FF.rg 32 62) (GZ 32 (by decide) (by decide) (by decide) (by decide) (by decide)) (G.at 23), tape _ o63, fm_sheets sh (FF.rg 86 93) (G.at 24) (G.at 25) (G.at 26), rk.st G (GZ 21 (by decide) (by decide) (by decide) (by decide) (by decide))⟩
      have h8 := wc.2.2.2.2.1.1
      refine ⟨fun k hk => ?_, Or.inl (by rw [fm_wr, if_pos ⟨rfl, rfl⟩])⟩
      have hk2 : k < C.2.2.2.2.1.length := hk
      rw [fm_wr, if_neg (by omega), o1 81 (by decide) (by decide), fm_wrn (by decide), F.at 81]
      exact kp.1 k hk
