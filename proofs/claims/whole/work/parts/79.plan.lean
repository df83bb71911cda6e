theorem fp_al_s {T : List fm_Ty} {L : fm_Li} {w s s2 t q : Nat} (h : s.testBit (q + 1) = s2.testBit (q + 1)) : fp_al T L w s t q ↔ fp_al T L w s2 t q := by
  unfold fp_al fp_cl
  rw [h]
theorem fp_jo_s {T : List fm_Ty} {L : fm_Li} {w s s2 t q : Nat} (h : s.testBit (q + 1) = s2.testBit (q + 1)) (h2 : s.testBit (q + 1 + 1) = s2.testBit (q + 1 + 1)) : fp_jo T L w s t q ↔ fp_jo T L w s2 t q := by
  unfold fp_jo fp_cl
  rw [h, h2]
theorem xQ_s {T : List fm_Ty} {L : fm_Li} {w s s2 : Nat} {us : List Nat} : ∀ (k q : Nat) (F : Nat → Prop), L.1.length - q ≤ k → (∀ i, q ≤ i → s.testBit i = s2.testBit i) → (xQ T L w s us q F ↔ xQ T L w s2 us q F) := by
  intro k
  induction k with
  | zero => intro q F hk _; exact ⟨fun _ => fq_end (by omega), fun _ => fq_end (by omega)⟩
  | succ k ih =>
    intro q F hk hb
    by_cases hq : q < L.1.length
    · have i1 := fun G => ih (q + 1) G (by omega) (fun i hi => hb i (by omega))
      have i2 := fun G => ih (q + 2) G (by omega) (fun i hi => hb i (by omega))
      unfold xQ at i1 i2 ⊢
      rw [fq_st hq, fq_st hq, hb q (Nat.le_refl _), i1 F]
      constructor
      · rintro (z | ⟨b, t, t1, t2, (⟨z1, z2⟩ | ⟨z1, z2, z3⟩)⟩)
        · exact Or.inl z
        · exact Or.inr ⟨b, t, t1, t2, Or.inl ⟨(fp_al_s (hb _ (by omega))).mp z1, (i1 _).mp z2⟩⟩
        · exact Or.inr ⟨b, t, t1, t2, Or.inr ⟨(fp_jo_s (hb _ (by omega)) (hb _ (by omega))).mp z1, z2, (i2 _).mp z3⟩⟩
      · rintro (z | ⟨b, t, t1, t2, (⟨z1, z2⟩ | ⟨z1, z2, z3⟩)⟩)
        · exact Or.inl z
        · exact Or.inr ⟨b, t, t1, t2, Or.inl ⟨(fp_al_s (hb _ (by omega))).mpr z1, (i1 _).mpr z2⟩⟩
        · exact Or.inr ⟨b, t, t1, t2, Or.inr ⟨(fp_jo_s (hb _ (by omega)) (hb _ (by omega))).mpr z1, z2, (i2 _).mpr z3⟩⟩
    · exact ⟨fun _ => fq_end (by omega), fun _ => fq_end (by omega)⟩
theorem fs_same {k s B l : Nat} (h1 : B ≤ k) (h2 : k < s) (hB : ∀ i, l + 1 ≤ i → B.testBit i = s.testBit i) : ∀ i, l + 1 ≤ i → k.testBit i = s.testBit i := by
  have e : B / 2 ^ (l + 1) = s / 2 ^ (l + 1) := by
    apply Nat.eq_of_testBit_eq
    intro i
    rw [Nat.testBit_div_two_pow, Nat.testBit_div_two_pow]
    exact hB _ (by omega)
  have e2 : k / 2 ^ (l + 1) = s / 2 ^ (l + 1) := by
    have a := Nat.div_le_div_right (c := 2 ^ (l + 1)) h1
    have b := Nat.div_le_div_right (c := 2 ^ (l + 1)) (Nat.le_of_lt h2)
    omega
  intro i hi
  have f : ∀ x : Nat, x.testBit i = (x / 2 ^ (l + 1)).testBit (i - (l + 1)) := fun x => by
    rw [Nat.testBit_div_two_pow, show i - (l + 1) + (l + 1) = i by omega]
  rw [f k, f s, e2]
theorem xcap_le {T : List fm_Ty} {us : List Nat} (h : us.length ≤ 10) : xcap T us ≤ 20 := by
  unfold xcap
  have := fm_su_b (g := fun i => if (fm_tt T (xg us i)).1 = 2 then 2 else 1) (b := 2) us.length (fun i _ => by split <;> omega)
  omega
theorem fx_fillLeast {μ : fw_M} {T : List fm_Ty} {L : fm_Li} {w : Nat} {us : List Nat} (h : xP μ T L w us) (hn : xN μ L.1.length us.length) (wl : wL L) (wt : wT T) (hw : w ≤ 1) : fm_T (f_Press_fillLeast (nI (2 ^ L.1.length - 1)) μ) (fun ν => fm_F [70] μ ν ∧ ∀ p, p < 2 ^ L.1.length → ∃ f, fp_few (fp_can T L w) p f ∧ ν.1 70 p = nI f) := by
  have l10 := wl.1
  have p10 : 2 ^ L.1.length ≤ 1024 := fm_pow8 (n := 10) l10
  have p1 : 1 ≤ 2 ^ L.1.length := Nat.one_le_two_pow
  have k10 : us.length ≤ 10 := by have := h.2.2.2.2.2.2.2.2.2.1; have := wt.1; omega
  have c20 := xcap_le (T := T) k10
  have u := h.2.2.2.2.2.2.2.2.2
  have cap : ∀ p, p < 2 ^ L.1.length → fp_can T L w p → fs_n p ≤ xcap T us := fun p hp hc => fp_can_cap u wl hp hc
  unfold f_Press_fillLeast
  rw [h.1, show nI L.1.length - 1 = nD L.1.length from rfl, fm_bind]
  refine (fx_fill (s := 0) h wl wt hw (by omega) (Nat.le_refl _) (fun q q1 q2 => by rw [show q = L.1.length by omega]; exact xV_n hn)).mono ?_
  intro ν0 ⟨a1, a2, a3⟩
  rw [show (fw_si 1024 ν0 70 0 0) = some (fw_wr ν0 70 0 0) from fm_si (j := 0) (by omega) (by omega), fm_bs, fm_bind]
  refine fm_up (P := fun s st => st.1 = nI s ∧ 1 ≤ s ∧ fm_F [70] μ st.2 ∧ (∃ k, k < s ∧ (∀ q, q ≤ L.1.length → xV st.2 T L w k us q) ∧ ∀ x, k < x → x < s → xcap T us < fs_n x) ∧ ∀ p, p < s → ∃ f, fp_few (fp_can T L w) p f ∧ st.2.1 70 p = nI f) (2 ^ L.1.length) ?_ ?_ 1 p1 ⟨rfl, Nat.le_refl _, fun k hk => by rw [fm_wrn (by simpa using hk), a1], ⟨0, by omega, fun q hq => (a3 q hq).cong k10 (fun j _ _ => rfl), fun x x1 x2 => absurd x2 (by omega)⟩, fun p hp => ⟨0, by rw [show p = 0 by omega]; exact fp_few_0 _, by rw [show p = 0 by omega, fm_wr, if_pos ⟨rfl, rfl⟩]; rfl⟩⟩ (by omega)
  · rintro s ⟨x, ν⟩ hs ⟨e1, s1, F, ⟨k, k1, k2, k3⟩, hf⟩
    simp only at e1 F k2 hf
    subst e1
    have hν : xP ν T L w us := h.cong (fun k _ _ => F k (by simp; omega))
    have n10 := fs_n10 s
    unfold f_Press_fillLeast_L20
    try dsimp only
    rw [if_neg (nI_nlt (show s ≤ 2 ^ L.1.length - 1 by omega) (by omega)), fm_pc0 s (by omega), fm_bs, fs_npc s (by omega), hν.2.2.2.2.2.1]
    -- the end of a turn
    have last : ∀ ξ : fw_M, ξ.1 = ν.1 → (∃ k, k < s + 1 ∧ (∀ q, q ≤ L.1.length → xV ξ T L w k us q) ∧ ∀ x, k < x → x < s + 1 → xcap T us < fs_n x) → ∀ c : Prop, (c ↔ fp_can T L w s) → fm_T (Option.bind (if fB c = 0 then (f_Press_leastApart (nI s) ξ).bind fun (p73 : Int32) => some p73 else some 1) fun (j64 : Int32) => (fw_si 1024 ξ 70 (nI s) j64).bind fun μ76 => fw_nm (nI s + 1) fun (v77 : Int32) => (some (.inl (v77, μ76)) : Option ((Int32 × fw_M) ⊕ fw_M))) (fm_K (fun st => st.1 = nI (s + 1) ∧ 1 ≤ s + 1 ∧ fm_F [70] μ st.2 ∧ (∃ k, k < s + 1 ∧ (∀ q, q ≤ L.1.length → xV st.2 T L w k us q) ∧ ∀ x, k < x → x < s + 1 → xcap T us < fs_n x) ∧ ∀ p, p < s + 1 → ∃ f, fp_few (fp_can T L w) p f ∧ st.2.1 70 p = nI f) (fun a => fm_T (some a) fun ν => fm_F [70] μ ν ∧ ∀ p, p < 2 ^ L.1.length → ∃ f, fp_few (fp_can T L w) p f ∧ ν.1 70 p = nI f)) := by
      intro ξ x1 ⟨kk, q1, q2, q3⟩ c hc
      have fin : ∀ f, fp_few (fp_can T L w) s f → fm_T ((fw_si 1024 ξ 70 (nI s) (nI f)).bind fun μ76 => fw_nm (nI s + 1) fun (v77 : Int32) => (some (.inl (v77, μ76)) : Option ((Int32 × fw_M) ⊕ fw_M))) (fm_K (fun st => st.1 = nI (s + 1) ∧ 1 ≤ s + 1 ∧ fm_F [70] μ st.2 ∧ (∃ k, k < s + 1 ∧ (∀ q, q ≤ L.1.length → xV st.2 T L w k us q) ∧ ∀ x, k < x → x < s + 1 → xcap T us < fs_n x) ∧ ∀ p, p < s + 1 → ∃ f, fp_few (fp_can T L w) p f ∧ st.2.1 70 p = nI f) (fun a => fm_T (some a) fun ν => fm_F [70] μ ν ∧ ∀ p, p < 2 ^ L.1.length → ∃ f, fp_few (fp_can T L w) p f ∧ ν.1 70 p = nI f)) := by
        intro f hfw
        rw [fm_si (by omega) (by omega), fm_bs, fm_nm, fm_some, fm_Kl]
        refine ⟨nI_1 s, by omega, fun k hk => by rw [fm_wrn (by simpa using hk), x1]; exact F k hk, ⟨kk, q1, fun q hq => (q2 q hq).cong k10 (fun j _ _ => rfl), q3⟩, fun p hp => ?_⟩
        by_cases e : p = s
        · subst e
          exact ⟨f, hfw, by rw [fm_wr, if_pos ⟨rfl, rfl⟩]⟩
        · obtain ⟨f2, g1, g2⟩ := hf p (by omega)
          exact ⟨f2, g1, by rw [fm_wr, if_neg (fun z => e z.2), x1]; exact g2⟩
      by_cases hcan : c
      · rw [fB1 hcan, if_neg fm_n10, fm_bs]
        have one : fp_few (fp_can T L w) s 1 := Or.inl ⟨by omega, ⟨s, by omega, Nat.and_self s, hc.mp hcan, by show s ^^^ s = 0; exact Nat.xor_self s⟩, fun k hk hh => by
          have : k = 0 := by omega
          subst this
          have : s = 0 := hh
          omega⟩
        exact fin 1 one
      · rw [fB0 hcan, if_pos rfl, fm_bind, fm_bind]
        obtain ⟨l, l1, _, l2, l3⟩ : ∃ l, l < L.1.length ∧ True ∧ s.testBit l = true ∧ ∀ i, i < l → s.testBit i = false := by
          obtain ⟨r, _, l, l1, _, l2, l3⟩ := fx_low (μ := ν) hν.1 l10 (show s ≠ 0 by omega) hs
          exact ⟨l, l1, trivial, l2, l3⟩
        refine (fx_apart (μ := ξ) (can := fp_can T L w) (s := s) (c := xcap T us) (m := 2 ^ L.1.length) hs p10 (by omega) (fun z => hcan (hc.mpr z)) cap (by omega) (by rw [x1]; exact hν.2.2.2.2.2.1) ⟨l, l2, l3⟩ (fun p hp => by rw [x1]; exact hf p hp)).mono ?_
        rintro r ⟨f, f1, rfl⟩
        rw [fm_some]
        exact fin f f1
    by_cases big : xcap T us < fs_n s
    · rw [if_pos (nI_lt big (by omega)), fm_bs]
      simp only
      have := last ν rfl ⟨k, by omega, k2, fun x x1 x2 => by
        by_cases e : x = s
        · rw [e]; exact big
        · exact k3 x x1 (by omega)⟩ False ⟨fun z => z.elim, fun z => by have := cap s hs z; omega⟩
      rw [fB0 id] at this
      exact this
    · rw [if_neg (nI_nlt (by omega) (by omega)), fm_bind, fm_bind]
      refine (fx_low (μ := ν) hν.1 l10 (show s ≠ 0 by omega) hs).mono ?_
      rintro r ⟨l, l1, rfl, l2, l3⟩
      have pb : fs_in (2 ^ l) s := fs_of (fun i hi => by
        rw [Nat.testBit_two_pow] at hi
        have : l = i := of_decide_eq_true hi
        rw [← this]; exact l2)
      have Bk : s ^^^ 2 ^ l ≤ k := by
        by_cases q : s ^^^ 2 ^ l ≤ k
        · exact q
        · have b1 := fs_xlt pb (Nat.ne_of_gt (Nat.two_pow_pos l))
          have b2 := k3 (s ^^^ 2 ^ l) (by omega) b1
          have b3 := fs_nx pb
          omega
      have same : ∀ i, l + 1 ≤ i → k.testBit i = s.testBit i := fs_same Bk k1 (fun i hi => by
        rw [fs_xbit pb, Nat.testBit_two_pow, decide_eq_false (by omega)]; simp)
      rw [fm_bind, show nI l = nD (l + 1) from (nD_s l).symm]
      refine (fx_fill (s := s) (m := l + 1) hν wl wt hw (by omega) (by omega) (fun q q1 q2 f hf2 => ?_)).mono ?_
      · rw [k2 q q2 f hf2]
        exact xQ_s L.1.length q _ (by omega) (fun i hi => same i (by omega))
      · intro ξ ⟨x1, x2, x3⟩
        have hξ : xP ξ T L w us := hν.cong (fun k _ _ => by rw [x1])
        rw [fx_all hξ wt, fm_bs, fx_once hξ wt (x3 0 (Nat.zero_le _)), fm_bs, fm_some]
        exact last ξ x1 ⟨s, by omega, x3, fun x y1 y2 => absurd y2 (by omega)⟩ _ Iff.rfl
  · rintro ⟨x, ν⟩ ⟨e1, s1, F, _, hf⟩
    simp only at e1 F hf
    subst e1
    unfold f_Press_fillLeast_L20
    try dsimp only
    rw [if_pos (nI_lt (show 2 ^ L.1.length - 1 < 2 ^ L.1.length by omega) (by omega)), fm_some, fm_Kr, fm_some]
    exact ⟨F, hf⟩
/-- what solve leaves -/
def xF (ν : fw_M) (can : Nat → Prop) (n f : Nat) : Prop := (f = 1 ∧ ν.1 70 (2 ^ n - 1) = nI 1) ∨ ∀ p, p < 2 ^ n → ∃ f, fp_few can p f ∧ ν.1 70 p = nI f
theorem fx_solve {μ : fw_M} {T : List fm_Ty} {L : fm_Li} {w : Nat} {us : List Nat} (h : xP μ T L w us) (hn : xN μ L.1.length us.length) (wl : wL L) (wt : wT T) (hw : w ≤ 1) (n0 : L.1.length ≠ 0) : fm_T (f_Press_solve μ) (fun p => ∃ f, fp_few (fp_can T L w) (fp_all L) f ∧ p.1 = fp_ans f ∧ fm_F [70] μ p.2 ∧ xF p.2 (fp_can T L w) L.1.length f) := by
  have l10 := wl.1
  have p10 : 2 ^ L.1.length ≤ 1024 := fm_pow8 (n := 10) l10
  have p2 : 2 ≤ 2 ^ L.1.length := fm_pow8 (k := 1) (by omega)
  unfold f_Press_solve
  rw [h.1, fm_one (by omega), fm_pred (by omega), fm_nm, fm_bind]
  refine (fx_inks (s := 2 ^ L.1.length - 1) h hn wl wt hw (by omega)).mono ?_
  rintro ⟨r, ν⟩ ⟨rfl, n1, n2, _⟩
  simp only at n1 n2 ⊢
  have hν : xP ν T L w us := h.cong (fun k _ _ => by rw [n1])
  have ans : ∀ f, f ≤ 99 → (Option.bind (if 99 ≤ nI f then (some (-4) : Option Int32) else some (nI f)) fun (j40 : Int32) => some j40) = some (fp_ans f) := fun f hf => by
    unfold fp_ans
    by_cases q : f < 99
    · rw [if_neg (fh_nge (c := 99) (b := 99) rfl q (by omega)), if_pos q]; rfl
    · rw [show f = 99 by omega]; rfl
  by_cases c : fp_can T L w (2 ^ L.1.length - 1)
  · have ev : (fw_wr ν 70 (2 ^ L.1.length - 1) 1).1 70 (2 ^ L.1.length - 1) = 1 := by rw [fm_wr, if_pos ⟨rfl, rfl⟩]
    rw [fB1 c, if_neg fm_n10, fm_si (by omega) (by omega), fm_bs, fm_bs, fm_rd (by omega) (by omega), fm_bs, ev, if_neg (show ¬ (99 : Int32) ≤ 1 by decide), fm_bs, fm_bs, fm_some]
    have few : fp_few (fp_can T L w) (fp_all L) 1 := Or.inl ⟨by omega, ⟨fp_all L, by unfold fp_all; omega, Nat.and_self _, c, by show fp_all L ^^^ fp_all L = 0; exact Nat.xor_self _⟩, fun k hk hh => by
      have : k = 0 := by omega
      subst this
      have : fp_all L = 0 := hh
      unfold fp_all at this
      omega⟩
    exact ⟨1, few, rfl, fun k hk => by rw [fm_wrn (by simpa using hk), n1], Or.inl ⟨rfl, by rw [fm_wr, if_pos ⟨rfl, rfl⟩]; rfl⟩⟩
  · rw [fB0 c, if_pos rfl, fm_bind, fm_bind]
    refine (fx_fillLeast hν n2 wl wt hw).mono ?_
    intro ξ ⟨G, hf⟩
    obtain ⟨f, f1, f2⟩ := hf (2 ^ L.1.length - 1) (by omega)
    have f10 := fp_few_10 (by omega) f1
    rw [fm_some, fm_rd (by omega) (by omega), fm_bs, f2, fm_bs]
    have e := ans f (by omega)
    rw [fm_bind]
    obtain ⟨v, v1, v2⟩ : fm_T (if 99 ≤ nI f then (some (-4) : Option Int32) else some (nI f)) (fun a => a = fp_ans f) := by
      by_cases q : (99 : Int32) ≤ nI f
      · rw [if_pos q] at e ⊢; rw [fm_some]; exact Option.some.inj e
      · rw [if_neg q] at e ⊢; rw [fm_some]; exact Option.some.inj e
    refine ⟨v, v1, ?_⟩
    show fm_T (some (v, ξ)) _
    rw [fm_some]
    exact ⟨f, f1, v2, fun k hk => by rw [G k hk, n1], Or.inr hf⟩
/-! THE PLAN -/
theorem fp_ch_ex {can : Nat → Prop} {s m : Nat} (h : fp_few can s (m + 1)) (hm : m + 1 < 99) : ∃ p, fp_ch can s p m := by
  rcases h with ⟨_, ⟨p, p0, p1, p2, p3⟩, h3⟩ | ⟨h, _⟩
  · exact ⟨p, p0, p1, p2, Or.inl ⟨by omega, p3, fun k hk hh => h3 (k + 1) (by omega) ⟨p, p0, p1, p2, hh⟩⟩⟩
  · omega
theorem fs_x0 {p s : Nat} (h : s ^^^ p = 0) : p = s := by
  apply Nat.eq_of_testBit_eq
  intro i
  have z2 : (s ^^^ p).testBit i = false := by rw [h]; simp
  rw [Nat.testBit_xor] at z2
  revert z2
  cases s.testBit i <;> cases p.testBit i <;> simp
theorem fs_inI {x s : Nat} : nI x &&& (nI s ^^^ (-1)) = nI (x ^^^ (x &&& s)) := fm_andn x s
theorem fs_in0 {x s : Nat} (hx : x < 1024) : nI x &&& (nI s ^^^ (-1)) = 0 ↔ fs_in x s := by
  have h1 : x ^^^ (x &&& s) ≤ x := by
    apply fs_le
    apply fs_of
    intro i hi
    rw [Nat.testBit_xor, Nat.testBit_and] at hi
    cases e : x.testBit i
    · rw [e] at hi; simp at hi
    · rfl
  rw [fm_andn]
  constructor
  · intro h
    have h2 : x ^^^ (x &&& s) = 0 := (nI_eq (b := 0) (by omega) (by omega)).mp h
    exact fs_x0 h2
  · intro h
    rw [h, Nat.xor_self]; rfl
theorem fx_first {μ : fw_M} {can : Nat → Prop} {n s m : Nat} (n10 : n ≤ 10) (hs : s < 2 ^ n) (s0 : s ≠ 0) (m10 : m + 1 ≤ 10) (hf : fp_few can s (m + 1)) (hv : μ.1 70 s = nI (m + 1)) (ht : 1 ≤ m → ∀ p, p < 2 ^ n → ∃ f, fp_few can p f ∧ μ.1 70 p = nI f) : fm_T (f_Press_firstPull (nI s) μ) (fun r => ∃ p, r = nI p ∧ fp_ch can s p m ∧ ∀ q, q < p → ¬ fp_ch can s q m) := by
  have p10 : 2 ^ n ≤ 1024 := fm_pow8 (n := 10) n10
  unfold f_Press_firstPull
  rw [fm_rd (by omega) (by omega), fm_bs, hv]
  by_cases m0 : m = 0
  · subst m0
    rw [if_pos (show nI (0 + 1) ≤ 1 by decide), fm_some]
    refine ⟨s, rfl, ⟨s0, Nat.and_self s, (fp_few_1 s0 hf).mp rfl, by rw [Nat.xor_self]; exact fp_few_0 _⟩, fun q hq ⟨q0, q1, q2, q3⟩ => ?_⟩
    rcases q3 with ⟨_, q3, _⟩ | ⟨q3, _⟩
    · have := fs_x0 (show s ^^^ q = 0 from q3)
      omega
    · omega
  · have tab := ht (by omega)
    rw [if_neg (show ¬ nI (m + 1) ≤ 1 from fun z => by have := (nI_leI (b := 1) (by omega) (by omega)).mp z; omega), fm_bind]
    refine fm_wh (P := fun i st => ∃ x, 1 ≤ x ∧ x ≤ s ∧ i = s - x ∧ st = nI x ∧ ∀ q, q < x → ¬ fp_ch can s q m) ?_ (i := s - 1) ⟨1, Nat.le_refl _, by omega, rfl, rfl, fun q hq z => z.1 (by omega)⟩ (by omega)
    rintro i _ ⟨x, x1, x2, rfl, rfl, x3⟩
    unfold f_Press_firstPull_L12
    by_cases e : x = s
    · exfalso
      obtain ⟨p, hp⟩ := fp_ch_ex hf (by omega)
      have pl := fs_le hp.2.1
      by_cases q : p = s
      · have h3 := hp.2.2.2
        rw [q, Nat.xor_self] at h3
        have := fp_few_un h3 (fp_few_0 _)
        omega
      · exact x3 p (by omega) hp
    · rw [if_neg (nI_ge (by omega) (by omega))]
      have nxt : ¬ fp_ch can s x m → fm_T (fw_nm (nI x + 1) fun (v56 : Int32) => (some (.inl v56) : Option (Int32 ⊕ (Unit ⊕ Int32)))) (fm_K (fun s1 => ∃ j, j < s - x ∧ ∃ x, 1 ≤ x ∧ x ≤ s ∧ j = s - x ∧ s1 = nI x ∧ ∀ q, q < x → ¬ fp_ch can s q m) (fun a => fm_T (match a with | .inl _ => some (nI s) | .inr r12 => some r12) fun r => ∃ p, r = nI p ∧ fp_ch can s p m ∧ ∀ q, q < p → ¬ fp_ch can s q m)) := by
        intro no
        rw [fm_nm, fm_some, fm_Kl]
        refine ⟨s - (x + 1), by omega, x + 1, by omega, by omega, rfl, nI_1 x, fun q hq => ?_⟩
        by_cases c : q = x
        · rw [c]; exact no
        · exact x3 q (by omega)
      by_cases c1 : fs_in x s
      · rw [if_pos ((fs_in0 (by omega)).mpr c1), fm_rd (by omega) (by omega), fm_bs]
        obtain ⟨f, f1, f2⟩ := tab x (by omega)
        have f10 := fp_few_10 (by omega) f1
        have one := fp_few_1 (by omega) f1
        rw [f2]
        by_cases c2 : can x
        · have hxl := fs_xlt c1 (by omega)
          obtain ⟨g, g1, g2⟩ := tab (s ^^^ x) (by omega)
          have g10 := fp_few_10 (by omega) g1
          rw [if_pos (show nI f = 1 by rw [one.mpr c2]; rfl), fm_xor, fm_rd (by omega) (by omega), fm_bs, fm_rd (by omega) (by omega), fm_bs, g2, hv, nI_pred]
          by_cases c3 : g = m
          · rw [if_pos (by rw [c3]), fm_some, fm_Kr, fm_some]
            exact ⟨x, rfl, ⟨by omega, c1, c2, c3 ▸ g1⟩, x3⟩
          · rw [if_neg (fun z => c3 ((nI_eq (by omega) (by omega)).mp z))]
            exact nxt (fun z => c3 (fp_few_un g1 z.2.2.2))
        · rw [if_neg (show ¬ nI f = 1 from fun z => c2 (one.mp ((nI_eq (b := 1) (by omega) (by omega)).mp z)))]
          exact nxt (fun z => c2 z.2.2.1)
      · rw [if_neg (fun z => c1 ((fs_in0 (by omega)).mp z))]
        exact nxt (fun z => c1 z.2.1)
theorem fx_findPlan {μ : fw_M} {can : Nat → Prop} {n f : Nat} (h5 : μ.1 65 5 = nI n) (n10 : n ≤ 10) (hf : fp_few can (2 ^ n - 1) f) (f99 : f < 99) (hx : xF μ can n f) : fm_T (f_Press_findPlan μ) (fun ν => fm_F [82] μ ν ∧ ∃ P : List Nat, P.length = f ∧ fp_plan can P (2 ^ n - 1) ∧ ∀ i, i < f → ν.1 82 i = nI (P.getD i 0)) := by
  have p10 : 2 ^ n ≤ 1024 := fm_pow8 (n := 10) n10
  have p1 : 1 ≤ 2 ^ n := Nat.one_le_two_pow
  have f10 := fp_few_10 (by omega) hf
  unfold f_Press_findPlan
  rw [h5, fm_one (by omega), fm_pred p1, fm_nm, fm_bind]
  refine fm_wh (P := fun m st => ∃ (s k : Nat) (pre : List Nat), k + m = f ∧ st.1 = nI s ∧ st.2.1 = nI k ∧ fs_in s (2 ^ n - 1) ∧ fp_few can s m ∧ fm_F [82] μ st.2.2 ∧ (k = 0 → s = 2 ^ n - 1) ∧ pre.length = k ∧ (∀ i, i < k → st.2.2.1 82 i = nI (pre.getD i 0)) ∧ ∀ Q : List Nat, Q.length = m → fp_plan can Q s → fp_plan can (pre ++ Q) (2 ^ n - 1)) ?_ (i := f) ⟨2 ^ n - 1, 0, [], by omega, rfl, rfl, Nat.and_self _, hf, fm_F.rf, fun _ => rfl, rfl, fun i hi => absurd hi (Nat.not_lt_zero _), fun Q _ h => h⟩ (by omega)
  rintro m ⟨x, y, ν⟩ ⟨s, k, pre, km, e1, e2, sin, hs, F, k0, pl, pv, pQ⟩
  simp only at e1 e2 F pv
  subst e1 e2
  have sl := fs_le sin
  unfold f_Press_findPlan_L11
  try dsimp only
  cases m with
  | zero =>
    have s0 : s = 0 := by
      rcases hs with ⟨_, h, _⟩ | ⟨h, _⟩
      · exact h
      · omega
    subst s0
    have fin : fm_F [82] μ ν ∧ ∃ P : List Nat, P.length = f ∧ fp_plan can P (2 ^ n - 1) ∧ ∀ i, i < f → ν.1 82 i = nI (P.getD i 0) := by
      refine ⟨F, pre, by omega, ?_, fun i hi => pv i (by omega)⟩
      have := pQ [] rfl rfl
      rw [List.append_nil] at this
      exact this
    by_cases q : k = 10
    · rw [if_pos (nI_le (by omega) (by omega)), fm_some, fm_Kr, fm_some]
      exact fin
    · rw [if_neg (nI_ge (by omega) (by omega)), if_pos (show nI 0 = 0 from rfl), fm_some, fm_Kr, fm_some]
      exact fin
  | succ m =>
    have s0 : s ≠ 0 := fun z => by
      rw [z] at hs
      have := fp_few_un hs (fp_few_0 _)
      omega
    have tab : (1 ≤ m ∨ k ≠ 0) → ∀ p, p < 2 ^ n → ∃ f, fp_few can p f ∧ ν.1 70 p = nI f := fun hh p hp => by
      rcases hx with ⟨h1, _⟩ | h1
      · omega
      · rw [F.at 70]; exact h1 p hp
    have vs : ν.1 70 s = nI (m + 1) := by
      by_cases q : k = 0
      · rcases hx with ⟨h1, h2⟩ | h1
        · rw [k0 q, F.at 70, show m + 1 = 1 by omega]; exact h2
        · obtain ⟨g, g1, g2⟩ := h1 s (by omega)
          rw [F.at 70, g2, fp_few_un g1 hs]
      · obtain ⟨g, g1, g2⟩ := tab (Or.inr q) s (by omega)
        rw [g2, fp_few_un g1 hs]
    rw [if_neg (nI_ge (by omega) (by omega)), if_neg (nI_ne0 (by omega) (by omega)), fm_bind]
    refine (fx_first n10 (by omega) s0 (by omega) hs vs (fun hh => tab (Or.inl hh))).mono ?_
    rintro r ⟨p, rfl, hp, hmin⟩
    have pl2 := fs_le hp.2.1
    rw [fm_si (by omega) (by omega), fm_bs, fm_rd (by omega) (by omega), fm_bs, fm_wr, if_pos ⟨rfl, rfl⟩, fm_nm, fm_nm, fs_andn hp.2.1, fm_some, fm_Kl]
    refine ⟨m, by omega, s ^^^ p, k + 1, pre ++ [p], by omega, rfl, nI_1 k, fs_tr (fs_x hp.2.1) sin, hp.2.2.2, F.wr, fun z => absurd z (by omega), by rw [List.length_append, List.length_singleton]; omega, fun i hi => ?_, fun Q hQ hQ2 => ?_⟩
    · by_cases e : i = k
      · subst e
        rw [fm_wr, if_pos ⟨rfl, rfl⟩, show (pre ++ [p]).getD i 0 = p by rw [← pl]; exact fm_gDl]
      · rw [fm_wr, if_neg (fun z => e z.2), show (pre ++ [p]).getD i 0 = pre.getD i 0 from fm_gDa (by omega)]
        exact pv i (by omega)
    · rw [List.append_assoc]
      refine pQ ([p] ++ Q) (by simp; omega) ⟨hQ ▸ hp, hQ ▸ hmin, hQ2⟩
/-! the reference's plan -/
theorem fy_first {μ : fw_M} {p1 : Int32 × fw_M} {can : Nat → Prop} {n s m f k : Nat} (n10 : n ≤ 10) (hs : s < 2 ^ n) (hp1 : p1.1 = nI f) (hk : k + (m + 1) = f) (f10 : f ≤ 10) (hf : fp_few can s (m + 1)) (hy : yF μ can n) : fm_T (fw_wh (f_M_plans_L30 p1 (nI s) (nI k) μ) fw_N 1) (fun r => ∃ p, r = nI p ∧ fp_ch can s p m ∧ ∀ q, q < p → ¬ fp_ch can s q m) := by
  have p10 : 2 ^ n ≤ 1024 := fm_pow8 (n := 10) n10
  obtain ⟨p, hp, hmin⟩ := pk_least (fun p => fp_ch can s p m) (fp_ch_ex hf (by omega))
  have pl := fs_le hp.2.1
  have pp : 1 ≤ p := by have := hp.1; omega
  refine fm_wh (P := fun i st => ∃ x, 1 ≤ x ∧ x ≤ p ∧ i = p - x ∧ st = nI x) ?_ (i := p - 1) ⟨1, Nat.le_refl _, pp, rfl, rfl⟩ (by omega)
  rintro i _ ⟨x, x1, x2, rfl, rfl⟩
  unfold f_M_plans_L30
  have en : (p1.1 - nI k) - 1 = nI m := by
    rw [hp1, pk_sub (by omega), show f - k = m + 1 by omega, nI_pred]
  rw [en]
  have nxt : x ≠ p → fm_T (fw_nm (nI x + 1) fun (v68 : Int32) => (some (.inl v68) : Option (Int32 ⊕ Int32))) (fm_K (fun s1 => ∃ j, j < p - x ∧ ∃ x, 1 ≤ x ∧ x ≤ p ∧ j = p - x ∧ s1 = nI x) (fun r => ∃ p, r = nI p ∧ fp_ch can s p m ∧ ∀ q, q < p → ¬ fp_ch can s q m)) := by
    intro ne
    rw [fm_nm, fm_some, fm_Kl]
    exact ⟨p - (x + 1), by omega, x + 1, by omega, by omega, rfl, nI_1 x⟩
  have cx := hy.1 x x1 (by omega)
  by_cases c1 : fs_in x s
  · rw [if_pos ((fs_in0 (by omega)).mpr c1), fm_rd (by omega) (by omega), fm_bs, cx]
    by_cases c2 : can x
    · have hxl := fs_xlt c1 (by omega)
      obtain ⟨g, g1, g2⟩ := hy.2 (s ^^^ x) (by omega)
      have g10 := fp_few_10 (by omega) g1
      rw [fB1 c2, if_neg fm_n10, fs_andn c1, fm_rd (by omega) (by omega), fm_bs, g2]
      by_cases c3 : g = m
      · rw [if_pos (by rw [c3]), fm_some, fm_Kr]
        have hx : fp_ch can s x m := ⟨by omega, c1, c2, c3 ▸ g1⟩
        have : x = p := by
          by_cases q : x < p
          · exact absurd hx (hmin x q)
          · omega
        exact ⟨x, rfl, hx, fun q hq => hmin q (by omega)⟩
      · rw [if_neg (fun z => c3 ((nI_eq (by omega) (by omega)).mp z))]
        exact nxt (fun z => c3 (fp_few_un g1 (z ▸ hp.2.2.2)))
    · rw [fB0 c2, if_pos rfl]
      exact nxt (fun z => c2 (z ▸ hp.2.2.1))
  · rw [if_neg (fun z => c1 ((fs_in0 (by omega)).mp z))]
    exact nxt (fun z => c1 (z ▸ hp.2.1))
theorem fy_plans {μ : fw_M} {T : List fm_Ty} {L : fm_Li} {w k : Nat} (h : hM μ T L w) (wt : wT2 T) (wl : wL L) (hw : w ≤ 1) (hk : rKn k μ) (kb : k + 1024 < 2000000000) : fm_T (f_M_plans μ) (fun p => ∃ f, p.1 = nI f ∧ fp_few (fp_can T L w) (fp_all L) f ∧ fm_F [0, 13, 15, 16, 17] μ p.2 ∧ (∀ j, j ≠ 21 → p.2.1 0 j = μ.1 0 j) ∧ (∃ k2, k2 ≤ k + 1024 ∧ rKn k2 p.2) ∧ (f < 99 → ∃ P : List Nat, P.length = f ∧ fp_plan (fp_can T L w) P (fp_all L) ∧ ∀ i, i < f → p.2.1 17 i = nI (P.getD i 0))) := by
  have l10 := wl.1
  have p10 : 2 ^ L.1.length ≤ 1024 := fm_pow8 (n := 10) l10
  have p1 : 1 ≤ 2 ^ L.1.length := Nat.one_le_two_pow
  unfold f_M_plans
  rw [fm_bind]
  refine (fy_few h wt wl hw hk kb).mono ?_
  rintro ⟨v, ν0⟩ ⟨⟨f, e, hf⟩, F0, Z0, ⟨k2, kk, rk0⟩, hy⟩
  simp only at e F0 Z0 rk0 hy
  subst e
  have f10 := fp_few_10 (by unfold fp_all; omega) hf
  simp only
  rw [Z0 6 (by decide), h.2.1.1.1, fm_one (by omega), fm_pred p1, fm_nm, fm_bind]
  by_cases f99 : f = 99
  · refine fm_wh (P := fun i st => st = (nI (2 ^ L.1.length - 1), 0, ν0)) ?_ (i := 0) rfl (by omega)
    rintro i _ rfl
    unfold f_M_plans_L16
    try dsimp only
    rw [f99, if_neg (show ¬ nI 99 ≤ 0 by decide), if_pos (show (99 : Int32) ≤ nI 99 by decide), fm_some, fm_Kr, fm_some]
    exact ⟨99, rfl, f99 ▸ hf, F0.up, Z0, ⟨k2, kk, rk0⟩, fun z => absurd z (by omega)⟩
  · refine fm_wh (P := fun m st => ∃ (s k : Nat) (pre : List Nat), k + m = f ∧ st.1 = nI s ∧ st.2.1 = nI k ∧ fs_in s (fp_all L) ∧ fp_few (fp_can T L w) s m ∧ fm_F [17] ν0 st.2.2 ∧ pre.length = k ∧ (∀ i, i < k → st.2.2.1 17 i = nI (pre.getD i 0)) ∧ ∀ Q : List Nat, Q.length = m → fp_plan (fp_can T L w) Q s → fp_plan (fp_can T L w) (pre ++ Q) (fp_all L)) ?_ (i := f) ⟨fp_all L, 0, [], by omega, rfl, rfl, Nat.and_self _, hf, fm_F.rf, rfl, fun i hi => absurd hi (Nat.not_lt_zero _), fun Q _ h => h⟩ (by omega)
    rintro m ⟨x, y, ν⟩ ⟨s, k, pre, km, e1, e2, sin, hs, F, pl, pv, pQ⟩
    simp only at e1 e2 F pv
    subst e1 e2
    have sl := fs_le sin
    have al : fp_all L = 2 ^ L.1.length - 1 := rfl
    unfold f_M_plans_L16
    try dsimp only
    cases m with
    | zero =>
      rw [if_pos (nI_le (by omega) (by omega)), fm_some, fm_Kr, fm_some]
      refine ⟨f, rfl, hf, (F0.up : fm_F [0, 13, 15, 16, 17] μ ν0).tr F.up, fun j hj => by rw [F.at 0]; exact Z0 j hj, ⟨k2, kk, rk0.up (l := 0) F (by rw [F.at 0])⟩, fun _ => ⟨pre, by omega, ?_, fun i hi => pv i (by omega)⟩⟩
      have s0 : s = 0 := by
        rcases hs with ⟨_, h, _⟩ | ⟨h, _⟩
        · exact h
        · omega
      have := pQ [] rfl s0
      rw [List.append_nil] at this
      exact this
    | succ m =>
      have hyν : yF ν (fp_can T L w) L.1.length := by
        unfold yF at hy ⊢
        rw [F.at 15, F.at 16]
        exact hy
      rw [if_neg (nI_ge (by omega) (by omega)), if_neg (fh_nge (c := 99) (b := 99) rfl (by omega) (by omega)), fm_bind]
      refine (fy_first (p1 := (nI f, ν0)) l10 (by omega) rfl km (by omega) hs hyν).mono ?_
      rintro r ⟨p, rfl, hp, hmin⟩
      have pl2 := fs_le hp.2.1
      rw [fm_si (by omega) (by omega), fm_bs, fm_nm, fm_nm, fs_andn hp.2.1, fm_some, fm_Kl]
      refine ⟨m, by omega, s ^^^ p, k + 1, pre ++ [p], by omega, rfl, nI_1 k, fs_tr (fs_x hp.2.1) sin, hp.2.2.2, F.wr, by rw [List.length_append, List.length_singleton]; omega, fun i hi => ?_, fun Q hQ hQ2 => ?_⟩
      · by_cases e : i = k
        · subst e
          rw [fm_wr, if_pos ⟨rfl, rfl⟩, show (pre ++ [p]).getD i 0 = p by rw [← pl]; exact fm_gDl]
        · rw [fm_wr, if_neg (fun z => e z.2), show (pre ++ [p]).getD i 0 = pre.getD i 0 from fm_gDa (by omega)]
          exact pv i (by omega)
      · rw [List.append_assoc]
        refine pQ ([p] ++ Q) (by simp; omega) ⟨hQ ▸ hp, hQ ▸ hmin, hQ2⟩
