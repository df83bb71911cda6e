/-! can -/
theorem fm_scr {n : Nat} {μx μm νx νm : fw_M} {lx lm : List Nat} (hI : fm_I n μx μm) (F : fm_F lx μx νx) (G : fm_F lm μm νm) (Z : ∀ j, j ≠ 16 → j ≠ 17 → j ≠ 21 → νm.1 0 j = μm.1 0 j) (rk : rK (n + 1) νm) (dx : (lx.all fun q => decide (q = 31 ∨ 65 ≤ q ∧ q ≤ 80 ∨ 83 ≤ q ∧ q ≤ 85)) = true := by decide) (dm : (lm.all fun q => decide (q = 0 ∨ 11 ≤ q ∧ q ≤ 22 ∨ q = 27)) = true := by decide) : fm_I (n + 1) νx νm := by
  obtain ⟨⟨C, wc, xs, ms, kp⟩, im, tp, sh, -⟩ := hI
  have ax : ∀ k, ¬ (k = 31 ∨ 65 ≤ k ∧ k ≤ 80 ∨ 83 ≤ k ∧ k ≤ 85) → νx.1 k = μx.1 k := fun k hk => F k (fun hm => hk (of_decide_eq_true (List.all_eq_true.mp dx k hm)))
  have am : ∀ k, ¬ (k = 0 ∨ 11 ≤ k ∧ k ≤ 22 ∨ k = 27) → νm.1 k = μm.1 k := fun k hk => G k (fun hm => hk (of_decide_eq_true (List.all_eq_true.mp dm k hm)))
  have X1 : xS 1 νx C := by
    obtain ⟨a1, a2, a3, a4, a5, a6⟩ := xs
    refine ⟨?_, a2.cong (ax _ (by omega)) (ax _ (by omega)), ?_, ?_, ⟨by rw [ax 1 (by omega)]; exact a5.1, fun t ht => ?_⟩, ?_⟩
    · show rT (νx.1 2 3) (νx.1 3) (νx.1 4) (νx.1 5) C.1
      rw [ax 2 (by omega), ax 3 (by omega), ax 4 (by omega), ax 5 (by omega)]; exact a1
    · rw [ax (1 + 7) (by omega)]; exact a3
    · rw [ax (1 + 8) (by omega)]; exact a4
    · have := wc.2.2.2.2.1.1
      refine ⟨(a5.2 t ht).1.cong (ax _ (by omega)) (ax _ (by omega)), ?_⟩
      rw [ax (1 + 26) (by omega)]; exact (a5.2 t ht).2
    · show rJ (νx.1 28 3) (νx.1 29) (νx.1 30) C.2.2.2.2.2
      rw [ax 28 (by omega), ax 29 (by omega), ax 30 (by omega)]; exact a6
  exact ⟨⟨C, wc, X1, ms.cong (Z 0 (by decide) (by decide) (by decide)) (Z 6 (by decide) (by decide) (by decide)) (Z 8 (by decide) (by decide) (by decide)) (Z 9 (by decide) (by decide) (by decide)) (Z 11 (by decide) (by decide) (by decide)) (fun k h1 h2 => am k (by omega)), kp.cong (ax 81 (by omega)) (ax 82 (by omega))⟩, im.cong (ax 0 (by omega)) (fun k h1 h2 => ax k (by omega)) (Z 32 (by decide) (by decide) (by decide)) (am 23 (by omega)), tp.cong (by rw [ax 63 (by omega)]) (ax 64 (by omega)) (Z 15 (by decide) (by decide) (by decide)) (am 10 (by omega)), fm_sheets sh (fun k h1 h2 => ax k (by omega)) (am 24 (by omega)) (am 25 (by omega)) (am 26 (by omega)), rk⟩
theorem fh_le0 {a : Int32} {m : Nat} (h1 : 1 ≤ m) (hm : m < 2147483648) : (¬ a ≤ 0 ∧ ¬ nI m ≤ a) ↔ (1 ≤ a ∧ a ≤ nI (m - 1)) := by
  rw [Int32.le_iff_toInt_le, Int32.le_iff_toInt_le, Int32.le_iff_toInt_le, Int32.le_iff_toInt_le, nI_toInt hm, nI_toInt (by omega), show (0 : Int32).toInt = 0 from rfl, show (1 : Int32).toInt = 1 from rfl]
  omega
theorem fx_isSet {a : Int32} {μ : fw_M} {n : Nat} (h : μ.1 6 1 = nI n) (hn : n ≤ 10) : f_X_isSetOfPlaces a μ = some (if 1 ≤ a ∧ a ≤ nI (2 ^ n - 1) then 1 else 0) := by
  have p10 : 2 ^ n ≤ 1024 := fm_pow8 (n := 10) hn
  have p1 : 1 ≤ 2 ^ n := Nat.one_le_two_pow
  unfold f_X_isSetOfPlaces
  rw [h, fm_one (by omega)]
  by_cases g : 1 ≤ a ∧ a ≤ nI (2 ^ n - 1)
  · obtain ⟨g1, g2⟩ := (fh_le0 p1 (by omega)).mpr g
    rw [if_neg g1, if_neg g2, if_pos g]; rfl
  · by_cases q1 : a ≤ 0
    · rw [if_pos q1, if_neg g]; rfl
    · by_cases q2 : nI (2 ^ n) ≤ a
      · rw [if_neg q1, if_pos q2, if_neg g]; rfl
      · exact absurd ((fh_le0 p1 (by omega)).mp ⟨q1, q2⟩) g
theorem fy_isSet {a : Int32} {μ : fw_M} {n : Nat} (h : μ.1 0 6 = nI n) (hn : n ≤ 10) : f_M_isSet a μ = some (if 1 ≤ a ∧ a ≤ nI (2 ^ n - 1) then 1 else 0) := by
  unfold f_M_isSet
  rw [h, fm_one (by omega), fm_pred Nat.one_le_two_pow, fh_in (b := 1) (lo := 1) (hi := nI (2 ^ n - 1)) rfl rfl, fm_bs, fh_bz, fm_bs]
theorem fm_hM {μm : fw_M} {C : fm_C} (ms : mS μm.1 C) : hM μm C.1 C.2.1 (C.2.2.2.1 0) := ⟨ms.1, ms.2.1, ms.2.2.2.1 0 (by omega)⟩
theorem rK.n {n : Nat} {μ : fw_M} (h : rK n μ) : ∃ k, k ≤ 20000 * n ∧ rKn k μ := by
  obtain ⟨k, a, b, c⟩ := h
  exact ⟨k, a, b, c⟩
theorem rKn.k {n k : Nat} {μ : fw_M} (h : rKn k μ) (hk : k ≤ 20000 * n) : rK n μ := ⟨k, hk, h.1, h.2⟩
theorem rKn.up {k l : Nat} {μ ν : fw_M} {li : List Nat} (h : rKn k μ) (F : fm_F li μ ν) (z : ν.1 0 21 = μ.1 0 21) (d : fm_no li [13] := by decide) : rKn k ν := ⟨z.trans h.1, fun i hi => by rw [F 13 (fm_no_at d (by decide))]; exact h.2 i hi⟩
theorem fx_lockLine {μ : fw_M} {C : fm_C} (wc : wC C) (xs : xS 1 μ C) : fm_T (f_X_lockLine μ) (fun ν => fm_F [65, 66, 67, 68] μ ν ∧ ∃ us : List Nat, xP ν C.1 C.2.1 (C.2.2.2.1 0) us ∧ xN ν C.2.1.1.length us.length) := by
  have w1 := wc.2.2.2.1.1
  have r0 : μ.1 9 0 = nI (C.2.2.2.1 0) := xs.2.2.2.1 0 (by omega)
  have e : (if nI (C.2.2.2.1 0) = 1 then (1 : Int32) else 0) = nI (C.2.2.2.1 0) := by
    have : C.2.2.2.1 0 = 0 ∨ C.2.2.2.1 0 = 1 := by omega
    rcases this with h | h <;> rw [h] <;> rfl
  unfold f_X_lockLine
  rw [show (fw_rd 3 (μ.1 9) 0) = some (μ.1 9 0) from fm_rd (j := 0) (by omega) (by omega), fm_bs, r0, fm_nm, e, fm_bind]
  refine (fx_lock fh_ok6 (by omega) xs.1 wc.1 xs.2.1 wc.2.1 w1).mono ?_
  intro ν h
  rw [fm_some]
  exact h
theorem fo_can : fw_O_can fm_I := by
  intro n μx μm hn hI a1
  have hI0 := hI
  have hI2 := hI.up
  obtain ⟨⟨C, wc, xs, ms, kp⟩, im, tp, sh, rk⟩ := hI
  have l10 := wc.2.1.1
  have p10 : 2 ^ C.2.1.1.length ≤ 1024 := fm_pow8 (n := 10) l10
  have p1 : 1 ≤ 2 ^ C.2.1.1.length := Nat.one_le_two_pow
  unfold f_X_can f_M_can
  rw [fx_isSet xs.2.1.1.1 l10, fy_isSet ms.2.1.1.1 l10]
  by_cases g : 1 ≤ a1 ∧ a1 ≤ nI (2 ^ C.2.1.1.length - 1)
  · obtain ⟨s, hs1, hs2, rfl⟩ := fh_cl (l := 1) (n := 2 ^ C.2.1.1.length - 1) rfl rfl (by omega) (by have h := (fh_le0 p1 (by omega)).mpr g; have := Int32.le_trans g.1 g.2; have := (nI_leI (a := 1) (by omega) (by omega)).mp this; omega) g
    obtain ⟨k, hk, rkn⟩ := rk.n
    obtain ⟨ν1, e1, F1, us, hP, hN⟩ := fx_lockLine wc xs
    obtain ⟨⟨r, ν2⟩, e2, rfl, n1, hN2, -⟩ := fx_inks (s := s) hP hN wc.2.1 wc.1 wc.2.2.2.1.1 (by omega)
    obtain ⟨⟨r2, νm⟩, e3, rfl, G, Z, rk2⟩ := fy_canBe (s := s) (fm_hM ms) wc.1.w2 wc.2.1 wc.2.2.2.1.1 (by omega) rkn (by omega)
    simp only at n1 hN2 G Z rk2
    rw [if_pos g, fm_bs, fm_bs, if_neg fm_n10, if_neg fm_n10, e1, fm_bs, e2, fm_bs, e3, fm_bs]
    simp only
    have I3 : fm_I (n + 1) ν2 νm := fm_scr hI0 (lx := [65, 66, 67, 68]) (fun k hk => by rw [n1]; exact F1 k hk) G (fun j _ _ h => Z j h) (rk2.k (by omega))
    by_cases c : fp_can C.1 C.2.1 (C.2.2.2.1 0) s
    · rw [fB1 c, fm_nmE, if_neg fm_n10, if_neg fm_n10, fm_bs]
      exact ⟨_, _, _, rfl, rfl, I3⟩
    · rw [fB0 c, fm_nmE, if_pos rfl, if_pos rfl, fm_bs]
      exact ⟨_, _, _, rfl, rfl, I3⟩
  · rw [if_neg g]
    exact ⟨_, _, _, rfl, rfl, hI2⟩
/-! sets and their parts -/
def fs_in (p s : Nat) : Prop := p &&& s = p
theorem fs_bit {p s : Nat} (h : fs_in p s) {i : Nat} (hi : p.testBit i = true) : s.testBit i = true := by
  have h2 := congrArg (fun x => x.testBit i) h
  simp only [Nat.testBit_and] at h2
  rw [hi] at h2
  simpa using h2
theorem fs_of {p s : Nat} (h : ∀ i, p.testBit i = true → s.testBit i = true) : fs_in p s := by
  apply Nat.eq_of_testBit_eq
  intro i
  rw [Nat.testBit_and]
  cases e : p.testBit i
  · rfl
  · rw [h i e]; rfl
theorem fs_le {p s : Nat} (h : fs_in p s) : p ≤ s := by
  have : p &&& s ≤ s := Nat.and_le_right
  rw [h] at this
  exact this
theorem fs_xbit {p s i : Nat} (h : fs_in p s) : (s ^^^ p).testBit i = (s.testBit i && !p.testBit i) := by
  rw [Nat.testBit_xor]
  cases e : p.testBit i
  · cases s.testBit i <;> rfl
  · rw [fs_bit h e]; rfl
theorem fs_x {p s : Nat} (h : fs_in p s) : fs_in (s ^^^ p) s := fs_of (fun i hi => by
  rw [fs_xbit h] at hi
  cases e : s.testBit i
  · rw [e] at hi; cases hi
  · rfl)
theorem fs_xlt {p s : Nat} (h : fs_in p s) (h0 : p ≠ 0) : s ^^^ p < s := by
  have h1 := fs_le (fs_x h)
  by_cases e : s ^^^ p = s
  · exfalso
    apply h0
    apply Nat.eq_of_testBit_eq
    intro i
    have h2 : (s ^^^ p).testBit i = s.testBit i := by rw [e]
    rw [fs_xbit h] at h2
    rw [Nat.zero_testBit]
    cases q : p.testBit i
    · rfl
    · rw [fs_bit h q, q] at h2; cases h2
  · omega
theorem fs_andn {p s : Nat} (h : fs_in p s) : nI s &&& (nI p ^^^ (-1)) = nI (s ^^^ p) := by
  rw [fm_andn, Nat.and_comm, h]
theorem fs_tr {p q s : Nat} (h : fs_in p q) (h2 : fs_in q s) : fs_in p s := fs_of (fun i hi => fs_bit h2 (fs_bit h hi))
theorem fs_half {p s : Nat} (h : fs_in p s) : fs_in (p / 2) (s / 2) := by
  unfold fs_in at *
  rw [← Nat.and_div_two, h]
theorem fs_mod {p s : Nat} (h : fs_in p s) : p % 2 ≤ s % 2 := by
  by_cases e : p % 2 = 1
  · have := fs_bit h (i := 0) (by rw [Nat.testBit_zero, e]; rfl)
    rw [Nat.testBit_zero] at this
    have := of_decide_eq_true this
    omega
  · omega
theorem fs_amod {a b : Nat} (h : a % 2 = 1) : (a &&& b) % 2 = b % 2 := by
  have h1 : (a &&& b).testBit 0 = (a.testBit 0 && b.testBit 0) := Nat.testBit_and a b 0
  rw [Nat.testBit_zero, Nat.testBit_zero, Nat.testBit_zero, h] at h1
  simp only [decide_true, Bool.true_and, decide_eq_decide] at h1
  omega
/-- the greatest part below p -/
theorem fs_next : ∀ (s p x : Nat), fs_in p s → 0 < p → fs_in x s → x < p → x ≤ (p - 1) &&& s := by
  intro s
  induction s using Nat.strongRecOn with
  | ind s ih =>
    intro p x hp p0 hx hlt
    have hps := fs_le hp
    have e1 : ((p - 1) &&& s) / 2 = ((p - 1) / 2) &&& (s / 2) := Nat.and_div_two
    have m1 := fs_mod hp
    have m2 := fs_mod hx
    by_cases b : p % 2 = 1
    · have q : (p - 1) / 2 = p / 2 := by omega
      have r : (p / 2) &&& (s / 2) = p / 2 := fs_half hp
      rw [q, r] at e1
      omega
    · have q : (p - 1) / 2 = p / 2 - 1 := by omega
      have r := ih (s / 2) (by omega) (p / 2) (x / 2) (fs_half hp) (by omega) (fs_half hx) (by omega)
      rw [q] at e1
      have e2 := fs_amod (b := s) (show (p - 1) % 2 = 1 by omega)
      omega
theorem fs_nin {p s : Nat} : fs_in ((p - 1) &&& s) s := fs_of (fun i hi => by rw [Nat.testBit_and] at hi; cases e : s.testBit i
                                                                              · rw [e] at hi; simp at hi
                                                                              · rfl)
theorem fs_nlt {p s : Nat} (h : 0 < p) : (p - 1) &&& s < p := by
  have : (p - 1) &&& s ≤ p - 1 := Nat.and_le_left
  omega
/-- how many members -/
def fs_n (s : Nat) : Nat := fm_su (fun i => if s.testBit i = true then 1 else 0) 10
theorem fs_n10 (s : Nat) : fs_n s ≤ 10 := fm_su_b (b := 1) 10 (fun i _ => by split <;> omega)
theorem fs_npc : ∀ s, s < 1024 → fm_pc s = fs_n s := by decide +kernel
theorem fm_su_add {f g : Nat → Nat} : ∀ n, fm_su (fun i => f i + g i) n = fm_su f n + fm_su g n := by
  intro n
  induction n with
  | zero => rfl
  | succ n ih =>
    show fm_su (fun i => f i + g i) n + (f n + g n) = (fm_su f n + f n) + (fm_su g n + g n)
    rw [ih]; omega
theorem fs_nx {p s : Nat} (h : fs_in p s) : fs_n (s ^^^ p) + fs_n p = fs_n s := by
  unfold fs_n
  rw [← fm_su_add]
  apply fm_su_cong
  intro i _
  rw [fs_xbit h]
  cases e : p.testBit i
  · cases s.testBit i <;> rfl
  · rw [fs_bit h e]; rfl
theorem fs_npos {p : Nat} (h : p ≠ 0) (h2 : p < 1024) : 1 ≤ fs_n p := by
  have h3 : ∀ p, p < 1024 → p ≠ 0 → 1 ≤ fs_n p := by decide +kernel
  exact h3 p h2 h
theorem fp_part_n {can : Nat → Prop} : ∀ (k s : Nat), s < 1024 → fp_part can k s → k ≤ fs_n s := by
  intro k
  induction k with
  | zero => intro s _ _; exact Nat.zero_le _
  | succ k ih =>
    intro s hs ⟨p, p0, p1, p2, p3⟩
    have h1 := fs_le p1
    have h2 := fs_le (fs_x p1)
    have h3 := ih _ (by omega) p3
    have h4 := fs_nx p1
    have h5 := fs_npos p0 (by omega)
    omega
theorem fp_few_10 {can : Nat → Prop} {s f : Nat} (hs : s < 1024) (h : fp_few can s f) : f ≤ 10 ∨ f = 99 := by
  rcases h with ⟨_, h, _⟩ | ⟨h, _⟩
  · left
    exact Nat.le_trans (fp_part_n f s hs h) (fs_n10 s)
  · exact Or.inr h
theorem fp_few_0 (can : Nat → Prop) : fp_few can 0 0 := Or.inl ⟨by omega, rfl, fun k hk => absurd hk (Nat.not_lt_zero _)⟩
theorem fp_few_le {can : Nat → Prop} {s f k : Nat} (h : fp_few can s f) (hk : fp_part can k s) : f ≤ k := by
  rcases h with ⟨_, _, h⟩ | ⟨_, h⟩
  · by_cases q : k < f
    · exact absurd hk (h k q)
    · omega
  · exact absurd hk (h k)
/-- the least, over all parts -/
theorem fp_few_dp {can : Nat → Prop} {s v : Nat} {g : Nat → Nat} (hs : s < 1024) (s0 : s ≠ 0) (hg : ∀ p, fs_in p s → p ≠ 0 → fp_few can (s ^^^ p) (g p)) (h1 : v = 99 ∨ ∃ p, fs_in p s ∧ p ≠ 0 ∧ can p ∧ v = 1 + g p ∧ v < 99) (h2 : ∀ p, fs_in p s → p ≠ 0 → can p → v ≤ 1 + g p) : fp_few can s v := by
  have low : ∀ k, fp_part can k s → v ≤ k := fun k hk => by
    cases k with
    | zero => exact absurd hk s0
    | succ k =>
      obtain ⟨p, p0, p1, p2, p3⟩ := hk
      have := h2 p p1 p0 p2
      have := fp_few_le (hg p p1 p0) p3
      omega
  rcases h1 with h1 | ⟨p, p1, p0, p2, p3, p4⟩
  · right
    refine ⟨h1, fun k hk => ?_⟩
    have := low k hk
    have := fp_part_n k s hs hk
    have := fs_n10 s
    omega
  · left
    refine ⟨p4, ?_, fun k hk hh => by have := low k hh; omega⟩
    rcases hg p p1 p0 with ⟨_, q, _⟩ | ⟨q, _⟩
    · rw [p3, Nat.add_comm]
      exact ⟨p, p0, p1, p2, q⟩
    · omega
/-! the reference's FEWEST -/
theorem fy_few42 {μ : fw_M} {can : Nat → Prop} {s : Nat} (hs : s < 1024) (s0 : s ≠ 0) (hc : ∀ p, 1 ≤ p → p ≤ s → μ.1 15 p = fB (can p)) (hf : ∀ p, p < s → ∃ f, fp_few can p f ∧ μ.1 16 p = nI f) (h99 : μ.1 16 s = nI 99) : fm_T (fw_wh (f_M_fewestOf_L42 (nI s)) fw_N (nI s, μ)) (fun ν => fm_F [16] μ ν ∧ (∀ j, j ≠ s → ν.1 16 j = μ.1 16 j) ∧ ∃ f, fp_few can s f ∧ ν.1 16 s = nI f) := by
  have key : ∀ p, ∃ f, fs_in p s → p ≠ 0 → fp_few can (s ^^^ p) f ∧ μ.1 16 (s ^^^ p) = nI f := fun p => by
    by_cases q : fs_in p s ∧ p ≠ 0
    · obtain ⟨f, f1, f2⟩ := hf _ (fs_xlt q.1 q.2)
      exact ⟨f, fun _ _ => ⟨f1, f2⟩⟩
    · exact ⟨0, fun a b => absurd ⟨a, b⟩ q⟩
  obtain ⟨g, hg⟩ := Classical.axiomOfChoice key
  refine fm_wh (P := fun i st => i ≤ s ∧ fs_in i s ∧ st.1 = nI i ∧ fm_F [16] μ st.2 ∧ (∀ j, j ≠ s → st.2.1 16 j = μ.1 16 j) ∧ ∃ v, v ≤ 99 ∧ st.2.1 16 s = nI v ∧ (v = 99 ∨ ∃ p, fs_in p s ∧ p ≠ 0 ∧ can p ∧ v = 1 + g p ∧ v < 99) ∧ ∀ p, fs_in p s → i < p → can p → v ≤ 1 + g p) ?_ (i := s) ⟨Nat.le_refl _, by unfold fs_in; exact Nat.and_self s, rfl, fm_F.rf, fun _ _ => rfl, 99, Nat.le_refl _, h99, Or.inl rfl, fun p hp hl => absurd (fs_le hp) (by omega)⟩ (by omega)
  rintro i ⟨x, ν⟩ ⟨his, hin, e1, F, fr, v, v99, hv, v1, v2⟩
  simp only at e1 F fr hv
  subst e1
  unfold f_M_fewestOf_L42
  try dsimp only
  by_cases i0 : i = 0
  · subst i0
    rw [if_pos (show nI 0 ≤ 0 by decide), fm_some, fm_Kr]
    refine ⟨F, fr, v, fp_few_dp hs s0 (fun p p1 p0 => (hg p p1 p0).1) v1 (fun p p1 p0 p2 => v2 p p1 (by omega) p2), hv⟩
  · have hxl := fs_xlt hin i0
    obtain ⟨gf, gv⟩ := hg i hin i0
    have g10 := fp_few_10 (by omega) gf
    have nxt : ∀ (ξ : fw_M) (u : Nat), u ≤ 99 → fm_F [16] μ ξ → (∀ j, j ≠ s → ξ.1 16 j = μ.1 16 j) → ξ.1 16 s = nI u → u ≤ v → (u = v ∨ (can i ∧ u = 1 + g i ∧ u < 99)) → (can i → u ≤ 1 + g i) → ∃ j, j < i ∧ j ≤ s ∧ fs_in j s ∧ (nI i - 1) &&& nI s = nI j ∧ fm_F [16] μ ξ ∧ (∀ j, j ≠ s → ξ.1 16 j = μ.1 16 j) ∧ ∃ v, v ≤ 99 ∧ ξ.1 16 s = nI v ∧ (v = 99 ∨ ∃ p, fs_in p s ∧ p ≠ 0 ∧ can p ∧ v = 1 + g p ∧ v < 99) ∧ ∀ p, fs_in p s → j < p → can p → v ≤ 1 + g p := by
      intro ξ u u99 F2 fr2 hu uv u1 u2
      have hn := fs_nlt (s := s) (show 0 < i by omega)
      refine ⟨(i - 1) &&& s, hn, by omega, fs_nin, by rw [fm_pred (by omega), fm_and], F2, fr2, u, u99, hu, ?_, fun p p1 p2 p3 => ?_⟩
      · rcases u1 with e | ⟨q1, q2, q3⟩
        · rw [e]; exact v1
        · exact Or.inr ⟨i, hin, i0, q1, q2, q3⟩
      · by_cases c1 : i < p
        · exact Nat.le_trans uv (v2 p p1 c1 p3)
        · by_cases c2 : p = i
          · rw [c2] at p3 ⊢; exact u2 p3
          · have := fs_next s i p hin (by omega) p1 (by omega)
            omega
    rw [if_neg (nI_nle (by omega) (by omega)), fm_rd (by omega) (by omega), fm_bs, F.at 15, hc i (by omega) his]
    by_cases c : can i
    · rw [fB1 c, if_neg fm_n10, fs_andn hin, fm_rd (by omega) (by omega), fm_bs, fr _ (by omega), gv, fm_bs, show (1 : Int32) = nI 1 from rfl, nI_add, fm_rd (by omega) (by omega), fm_bs, hv]
      by_cases q : v ≤ 1 + g i
      · rw [if_pos (nI_le q (by omega)), fm_bs, fm_bs, fm_si (by omega) (by omega), fm_bs, fm_nm, fm_some, fm_Kl]
        exact nxt _ v v99 F.wr (fun j hj => by rw [fm_wr, if_neg (fun z => hj z.2)]; exact fr j hj) (by rw [fm_wr, if_pos ⟨rfl, rfl⟩]) (Nat.le_refl _) (Or.inl rfl) (fun _ => q)
      · rw [if_neg (nI_ge (by omega) (by omega)), fm_bs, fm_si (by omega) (by omega), fm_bs, fm_nm, fm_some, fm_Kl]
        exact nxt _ (1 + g i) (by omega) F.wr (fun j hj => by rw [fm_wr, if_neg (fun z => hj z.2)]; exact fr j hj) (by rw [fm_wr, if_pos ⟨rfl, rfl⟩]) (by omega) (Or.inr ⟨c, rfl, by omega⟩) (fun _ => Nat.le_refl _)
    · rw [fB0 c, if_pos rfl, fm_bs, fm_rd (by omega) (by omega), fm_bs, hv, show (99 : Int32) = nI 99 from rfl, if_pos (nI_le v99 (by omega)), fm_bs, fm_bs, fm_si (by omega) (by omega), fm_bs, fm_nm, fm_some, fm_Kl]
      exact nxt _ v v99 F.wr (fun j hj => by rw [fm_wr, if_neg (fun z => hj z.2)]; exact fr j hj) (by rw [fm_wr, if_pos ⟨rfl, rfl⟩]) (Nat.le_refl _) (Or.inl rfl) (fun z => absurd z c)
/-- what fewestOf leaves: for each set whether it can, and its FEWEST -/
def yF (ν : fw_M) (can : Nat → Prop) (n : Nat) : Prop := (∀ p, 1 ≤ p → p < 2 ^ n → ν.1 15 p = fB (can p)) ∧ ∀ p, p < 2 ^ n → ∃ f, fp_few can p f ∧ ν.1 16 p = nI f
theorem fm_sz {n k j : Nat} {μ : fw_M} {p : Prop} (h : j < n) (hn : n < 2147483648) : fw_sz n μ k (nI j) (fB p) = some (fw_wr μ k j (fB p)) := by
  by_cases q : p
  · rw [fB1 q]; exact fm_sz1 h hn
  · rw [fB0 q]; exact fm_sz0 h hn
theorem fy_few {μ : fw_M} {T : List fm_Ty} {L : fm_Li} {w k : Nat} (h : hM μ T L w) (wt : wT2 T) (wl : wL L) (hw : w ≤ 1) (hk : rKn k μ) (kb : k + 1024 < 2000000000) : fm_T (f_M_fewestOf μ) (fun p => (∃ f, p.1 = nI f ∧ fp_few (fp_can T L w) (fp_all L) f) ∧ fm_F [0, 13, 15, 16] μ p.2 ∧ (∀ j, j ≠ 21 → p.2.1 0 j = μ.1 0 j) ∧ (∃ k2, k2 ≤ k + 1024 ∧ rKn k2 p.2) ∧ yF p.2 (fp_can T L w) L.1.length) := by
  have l10 := wl.1
  have p10 : 2 ^ L.1.length ≤ 1024 := fm_pow8 (n := 10) l10
  have p1 : 1 ≤ 2 ^ L.1.length := Nat.one_le_two_pow
  unfold f_M_fewestOf
  rw [h.2.1.1.1, fm_one (by omega), fm_nm, show (fw_si 1024 μ 16 0 0) = some (fw_wr μ 16 0 0) from fm_si (j := 0) (by omega) (by omega), fm_bs, fm_bind]
  refine fm_up (P := fun s st => st.1 = nI s ∧ 1 ≤ s ∧ fm_F [0, 13, 15, 16] μ st.2 ∧ (∀ j, j ≠ 21 → st.2.1 0 j = μ.1 0 j) ∧ rKn (k + s - 1) st.2 ∧ (∀ p, 1 ≤ p → p < s → st.2.1 15 p = fB (fp_can T L w p)) ∧ ∀ p, p < s → ∃ f, fp_few (fp_can T L w) p f ∧ st.2.1 16 p = nI f) (2 ^ L.1.length) ?_ ?_ 1 p1 ⟨rfl, Nat.le_refl _, fm_F.rf.wr, fun j _ => by rw [fm_wrn (by decide)], hk.up (l := 0) (fm_F.rf.wr : fm_F [16] μ _) (by rw [fm_wrn (by decide)]), fun p q1 q2 => absurd q1 (by omega), fun p hp => ⟨0, by rw [show p = 0 by omega]; exact fp_few_0 _, by rw [show p = 0 by omega, fm_wr, if_pos ⟨rfl, rfl⟩]; rfl⟩⟩ (by omega)
  · rintro s ⟨x, ν⟩ hs ⟨e1, s1, F, Z, rk, hc, hf⟩
    simp only at e1 F Z rk hc hf
    subst e1
    have hν := h.cong F (Z 0 (by decide)) (Z 6 (by decide)) (Z 8 (by decide))
    unfold f_M_fewestOf_L16
    try dsimp only
    rw [if_neg (nI_ge hs (by omega)), fm_bind]
    refine (fy_canBe (s := s) hν wt wl hw (by omega) rk (by omega)).mono ?_
    rintro ⟨r, ξ⟩ ⟨rfl, G, Z2, rk2⟩
    simp only at G Z2 rk2 ⊢
    rw [fm_sz (by omega) (by omega), fm_bs, fm_si (by omega) (by omega), fm_bs]
    generalize hζ : fw_wr (fw_wr ξ 15 s (fB (fp_can T L w s))) 16 s 99 = ζ
    have H : fm_F [15, 16] ξ ζ := by rw [← hζ]; exact (fm_F.rf.wr).wr
    have c15 : ∀ p, ζ.1 15 p = if p = s then fB (fp_can T L w s) else ν.1 15 p := fun p => by
      rw [← hζ, fm_wrn (by decide), fm_wr]
      by_cases e : p = s
      · rw [if_pos ⟨rfl, e⟩, if_pos e]
      · rw [if_neg (fun z => e z.2), if_neg e, G.at 15]
    have c16 : ∀ p, ζ.1 16 p = if p = s then nI 99 else ν.1 16 p := fun p => by
      rw [← hζ, fm_wr]
      by_cases e : p = s
      · rw [if_pos ⟨rfl, e⟩, if_pos e]; rfl
      · rw [if_neg (fun z => e z.2), if_neg e, fm_wrn (by decide), G.at 16]
    rw [fm_bind]
    refine (fy_few42 (μ := ζ) (can := fp_can T L w) (s := s) (by omega) (by omega) (fun p q1 q2 => ?_) (fun p hp => ?_) (by rw [c16, if_pos rfl])).mono ?_
    · rw [c15]
      by_cases e : p = s
      · rw [if_pos e, e]
      · rw [if_neg e]; exact hc p q1 (by omega)
    · rw [c16, if_neg (by omega)]; exact hf p hp
    · intro o ⟨o1, o2, f, o3, o4⟩
      rw [fm_nm, fm_some, fm_Kl]
      have O : fm_F [15, 16] ξ o := H.tr o1.up
      refine ⟨nI_1 s, by omega, (F.tr G.up).tr O.up, fun j hj => by rw [O.at 0, Z2 j hj, Z j hj], ?_, fun p q1 q2 => ?_, fun p hp => ?_⟩
      · have := rk2.up (l := 0) O (by rw [O.at 0])
        rw [show k + (s + 1) - 1 = k + s - 1 + 1 by omega]
        exact this
      · rw [o1.at 15, c15]
        by_cases e : p = s
        · rw [if_pos e, e]
        · rw [if_neg e]; exact hc p q1 (by omega)
      · by_cases e : p = s
        · rw [e]; exact ⟨f, o3, o4⟩
        · rw [o2 p e, c16, if_neg e]; exact hf p (by omega)
  · rintro ⟨x, ν⟩ ⟨e1, s1, F, Z, rk, hc, hf⟩
    simp only at e1 F Z rk hc hf
    subst e1
    unfold f_M_fewestOf_L16
    try dsimp only
    obtain ⟨f, f1, f2⟩ := hf (2 ^ L.1.length - 1) (by omega)
    rw [if_pos (nI_le (Nat.le_refl _) (by omega)), fm_some, fm_Kr, fm_pred p1, fm_rd (by omega) (by omega), fm_bs, fm_some, f2]
    exact ⟨⟨f, rfl, f1⟩, F, Z, ⟨_, by omega, rk⟩, hc, hf⟩
