/-! what a pull holds at most -/
noncomputable def xwt (T : List fm_Ty) (us : List Nat) (F : Nat → Prop) (i : Nat) : Nat := @ite _ (F i) (Classical.propDecidable _) (if (fm_tt T (xg us i)).1 = 2 then 2 else 1) 0
theorem fm_su_one {c t : Nat} : ∀ n, t < n → fm_su (fun i => if i = t then c else 0) n = c := by
  intro n
  induction n with
  | zero => intro h; exact absurd h (Nat.not_lt_zero _)
  | succ n ih =>
    intro h
    show fm_su (fun i => if i = t then c else 0) n + (if n = t then c else 0) = c
    by_cases e : n = t
    · rw [if_pos e, fm_su_top (m := 0) n (Nat.zero_le _) (fun i _ hi => if_neg (by omega))]
      show 0 + c = c
      omega
    · rw [if_neg e, ih (by omega)]; rfl
theorem xwt_no {T : List fm_Ty} {us : List Nat} {F : Nat → Prop} {t : Nat} (ht : t < us.length) (hF : F t) : fm_su (xwt T us (fq_no F t)) us.length + (if (fm_tt T (xg us t)).1 = 2 then 2 else 1) = fm_su (xwt T us F) us.length := by
  have e := fm_su_one (c := if (fm_tt T (xg us t)).1 = 2 then 2 else 1) us.length ht
  rw [← e, ← fm_su_add]
  apply fm_su_cong
  intro i _
  unfold xwt
  by_cases q : i = t
  · subst q
    rw [if_pos hF, if_neg (fun z => z.2 rfl), if_pos rfl]; omega
  · rw [if_neg q]
    by_cases f : F i
    · rw [if_pos f, if_pos (show fq_no F t i from ⟨f, q⟩)]; rfl
    · rw [if_neg f, if_neg (fun z => f z.1)]
def fs_r (s q n : Nat) : Nat := fm_su (fun i => if q ≤ i ∧ s.testBit i = true then 1 else 0) n
theorem fs_r1 {s q n : Nat} : fs_r s q n ≤ fs_r s (q + 1) n + (if s.testBit q = true then 1 else 0) := by
  by_cases hq : q < n
  · have e := fm_su_one (c := if s.testBit q = true then 1 else 0) (t := q) n hq
    unfold fs_r
    rw [← e, ← fm_su_add]
    refine fm_su_le _ (fun i _ => ?_)
    by_cases z : i = q
    · subst z; simp
    · rw [if_neg z]
      by_cases g : q ≤ i ∧ s.testBit i = true
      · rw [if_pos g, if_pos ⟨by omega, g.2⟩]; omega
      · rw [if_neg g]; omega
  · unfold fs_r
    rw [fm_su_top (m := 0) n (Nat.zero_le _) (fun i _ hi => if_neg (by omega))]
    exact Nat.zero_le _
theorem xQ_cap {T : List fm_Ty} {L : fm_Li} {w s : Nat} {us : List Nat} : ∀ (k q : Nat) (F : Nat → Prop), L.1.length - q ≤ k → xQ T L w s us q F → fs_r s q L.1.length ≤ fm_su (xwt T us F) us.length := by
  intro k
  induction k with
  | zero =>
    intro q F hk _
    unfold fs_r
    rw [fm_su_top (m := 0) L.1.length (Nat.zero_le _) (fun i _ hi => if_neg (by omega))]
    exact Nat.zero_le _
  | succ k ih =>
    intro q F hk h
    by_cases hq : q < L.1.length
    · have r1 := fs_r1 (s := s) (q := q) (n := L.1.length)
      unfold xQ at h
      rcases (fq_st hq).mp h with ⟨b, h1⟩ | ⟨b, t, t1, t2, (⟨h1, h2⟩ | ⟨h1, h2, h3⟩)⟩
      · have := ih (q + 1) F (by omega) h1
        rw [b] at r1
        simp at r1
        omega
      · have i1 := ih (q + 1) _ (by omega) h2
        have i2 := xwt_no (T := T) t1 t2
        rw [b] at r1
        simp at r1
        split at i2 <;> omega
      · have i1 := ih (q + 2) _ (by omega) h3
        have i2 := xwt_no (T := T) t1 t2
        have r2 : fs_r s (q + 1) L.1.length ≤ fs_r s (q + 2) L.1.length + (if s.testBit (q + 1) = true then 1 else 0) := fs_r1
        rw [if_pos h1.1.1] at i2
        have : (if s.testBit (q + 1) = true then 1 else 0) ≤ 1 := by split <;> omega
        rw [b] at r1
        simp at r1
        omega
    · unfold fs_r
      rw [fm_su_top (m := 0) L.1.length (Nat.zero_le _) (fun i _ hi => if_neg (by omega))]
      exact Nat.zero_le _
theorem fp_can_cap {T : List fm_Ty} {L : fm_Li} {w s : Nat} {us : List Nat} (u : xU T L us T.length) (wl : wL L) (hs : s < 2 ^ L.1.length) (h : fp_can T L w s) : fs_n s ≤ xcap T us := by
  have l10 := wl.1
  have h2 := (xQ_q (w := w) (s := s) u L.1.length 0 (fun _ => True) (fu 0) (by omega) (fun i _ => ⟨fun _ => by unfold fu; simp, fun _ => trivial⟩)).mpr (fp_can_q.mp h)
  have h3 := xQ_cap L.1.length 0 _ (by omega) h2
  have e1 : fs_r s 0 L.1.length = fs_n s := by
    unfold fs_r fs_n
    rw [fm_su_top (f := fun i => if s.testBit i = true then 1 else 0) (m := L.1.length) 10 l10 (fun i h1 h2 => if_neg (by rw [Nat.testBit_lt_two_pow (Nat.lt_of_lt_of_le hs (fm_pow8 h1))]; decide))]
    apply fm_su_cong
    intro i _
    simp
  have e2 : fm_su (xwt T us (fun _ => True)) us.length = xcap T us := by
    unfold xcap
    apply fm_su_cong
    intro i _
    unfold xwt
    rw [if_pos trivial]
  omega
theorem fp_part_cap {can : Nat → Prop} {c m : Nat} (hc : ∀ p, p < m → can p → fs_n p ≤ c) : ∀ (k s : Nat), s < m → fp_part can k s → fs_n s ≤ k * c := by
  intro k
  induction k with
  | zero => intro s _ h; rw [show s = 0 from h, show fs_n 0 = 0 by decide +kernel]; exact Nat.zero_le _
  | succ k ih =>
    intro s hs ⟨p, p0, p1, p2, p3⟩
    have h1 := fs_le p1
    have h2 := fs_le (fs_x p1)
    have h3 := ih _ (by omega) p3
    have h4 := fs_nx p1
    have h5 := hc p (by omega) p2
    rw [Nat.succ_mul]
    omega
theorem fs_xx {p q s : Nat} : (s ^^^ p) ^^^ q = (s ^^^ q) ^^^ p := by
  rw [Nat.xor_assoc, Nat.xor_comm p q, ← Nat.xor_assoc]
theorem fp_part_x {can : Nat → Prop} : ∀ (k s x : Nat), fp_part can k s → s.testBit x = true → ∃ p, p ≠ 0 ∧ fs_in p s ∧ p.testBit x = true ∧ can p ∧ 1 ≤ k ∧ fp_part can (k - 1) (s ^^^ p) := by
  intro k
  induction k with
  | zero => intro s x h hx; rw [show s = 0 from h] at hx; simp at hx
  | succ k ih =>
    intro s x ⟨p, p0, p1, p2, p3⟩ hx
    by_cases q : p.testBit x = true
    · exact ⟨p, p0, p1, q, p2, by omega, p3⟩
    · have hx2 : (s ^^^ p).testBit x = true := by rw [fs_xbit p1, hx]; simpa using q
      obtain ⟨r, r0, r1, r2, r3, r4, r5⟩ := ih _ x p3 hx2
      have rs : fs_in r s := fs_tr r1 (fs_x p1)
      refine ⟨r, r0, rs, r2, r3, by omega, ?_⟩
      obtain ⟨k2, rfl⟩ : ∃ k2, k = k2 + 1 := ⟨k - 1, by omega⟩
      refine ⟨p, p0, fs_of (fun i hi => ?_), p2, ?_⟩
      · rw [fs_xbit rs, fs_bit p1 hi]
        cases e : r.testBit i
        · rfl
        · have := fs_bit r1 e
          rw [fs_xbit p1, hi] at this
          simp at this
      · rw [fs_xx]; exact r5
theorem fp_few_1 {can : Nat → Prop} {s f : Nat} (s0 : s ≠ 0) (h : fp_few can s f) : f = 1 ↔ can s := by
  constructor
  · intro e
    subst e
    rcases h with ⟨_, ⟨p, p0, p1, p2, p3⟩, _⟩ | ⟨h, _⟩
    · have e2 : s ^^^ p = 0 := p3
      have : p = s := by
        by_cases q : p = s
        · exact q
        · have h1 := fs_le p1
          exfalso
          have : s ^^^ p ≠ 0 := fun z => q (by
            apply Nat.eq_of_testBit_eq
            intro i
            have z2 : (s ^^^ p).testBit i = false := by rw [z]; simp
            rw [Nat.testBit_xor] at z2
            revert z2
            cases s.testBit i <;> cases p.testBit i <;> simp)
          exact this e2
      rw [← this]; exact p2
    · omega
  · intro hc
    have h1 : fp_part can 1 s := ⟨s, s0, Nat.and_self s, hc, by show s ^^^ s = 0; exact Nat.xor_self s⟩
    have h2 := fp_few_le h h1
    rcases h with ⟨_, h3, _⟩ | ⟨h3, _⟩
    · cases f with
      | zero => exact absurd h3 s0
      | succ f => omega
    · omega
/-! the class's FEWEST -/
theorem fx_low {μ : fw_M} {n s : Nat} (h5 : μ.1 65 5 = nI n) (hn : n ≤ 10) (s0 : s ≠ 0) (hs : s < 2 ^ n) : fm_T (f_Press_lowestOf (nI s) μ) (fun r => ∃ l, l < n ∧ r = nI l ∧ s.testBit l = true ∧ ∀ i, i < l → s.testBit i = false) := by
  have p10 : 2 ^ n ≤ 1024 := fm_pow8 (n := 10) hn
  have n1 : 1 ≤ n := by
    by_cases q : n = 0
    · subst q; have : (2 : Nat) ^ 0 = 1 := rfl; omega
    · omega
  unfold f_Press_lowestOf
  rw [fm_bind]
  refine fm_wh (P := fun i st => ∃ l, l ≤ n - 1 ∧ i = n - l ∧ st = nI l ∧ ∀ j, j < l → s.testBit j = false) ?_ (i := n) ⟨0, by omega, rfl, rfl, fun j hj => absurd hj (Nat.not_lt_zero _)⟩ (by omega)
  rintro i _ ⟨l, hl, rfl, rfl, hb⟩
  unfold f_Press_lowestOf_L2
  rw [h5, fm_pred n1]
  by_cases e : l = n - 1
  · rw [if_pos (nI_le (by omega) (by omega)), fm_some, fm_Kr, fm_some]
    refine ⟨l, by omega, rfl, ?_, hb⟩
    cases q : s.testBit l
    · exfalso
      apply s0
      apply Nat.eq_of_testBit_eq
      intro j
      rw [Nat.zero_testBit]
      by_cases c : j < l
      · exact hb j c
      · by_cases c2 : j = l
        · rw [c2]; exact q
        · exact Nat.testBit_lt_two_pow (Nat.lt_of_lt_of_le hs (fm_pow8 (by omega)))
    · rfl
  · rw [if_neg (nI_ge (by omega) (by omega)), fm_inSet (by omega) (by omega), fm_bs]
    by_cases q : s.testBit l = true
    · rw [if_pos q, if_neg fm_n10, fm_some, fm_Kr, fm_some]
      exact ⟨l, by omega, rfl, q, hb⟩
    · rw [if_neg q, if_pos rfl, fm_nm, fm_some, fm_Kl]
      refine ⟨n - (l + 1), by omega, l + 1, by omega, rfl, nI_1 l, fun j hj => ?_⟩
      by_cases c : j = l
      · rw [c]; simpa using q
      · exact hb j (by omega)
theorem fs_low1 {s l : Nat} (hb : s.testBit l = true) (lo : ∀ i, i < l → s.testBit i = false) (s0 : 1 ≤ s) : ∀ i, (s &&& (s - 1)).testBit i = (s.testBit i && decide (i ≠ l)) := by
  intro i
  have e : s &&& (s - 1) = s - 2 ^ l := by
    have h : ∀ (l s : Nat), s.testBit l = true → (∀ i, i < l → s.testBit i = false) → s &&& (s - 1) = s - 2 ^ l := by
      intro l
      induction l with
      | zero =>
        intro s hb _
        rw [Nat.testBit_zero] at hb
        have h1 : s % 2 = 1 := of_decide_eq_true hb
        have e1 : (s &&& (s - 1)) / 2 = (s / 2) &&& ((s - 1) / 2) := Nat.and_div_two
        have e2 := fs_amod (a := s) (b := s - 1) h1
        rw [show (s - 1) / 2 = s / 2 by omega, Nat.and_self] at e1
        rw [Nat.pow_zero]
        omega
      | succ l ih =>
        intro s hb lo
        have hg := fm_ge2 hb
        rw [Nat.testBit_succ] at hb
        have h0 := lo 0 (by omega)
        rw [Nat.testBit_zero] at h0
        have h1 : ¬ s % 2 = 1 := of_decide_eq_false h0
        have e3 := ih (s / 2) hb (fun i hi => by have := lo (i + 1) (by omega); rw [Nat.testBit_succ] at this; exact this)
        have e1 : (s &&& (s - 1)) / 2 = (s / 2) &&& ((s - 1) / 2) := Nat.and_div_two
        rw [show (s - 1) / 2 = s / 2 - 1 by omega, e3] at e1
        have e2 : (s &&& (s - 1)) % 2 = 0 := by
          have := fs_amod (a := s - 1) (b := s) (by rw [Nat.pow_succ] at hg; have := Nat.two_pow_pos l; omega)
          rw [Nat.and_comm] at this
          omega
        rw [Nat.pow_succ] at hg ⊢
        omega
    exact h l s hb lo
  rw [e]
  exact fm_sub_bit l s i hb
theorem fx_apart {μ : fw_M} {can : Nat → Prop} {s c m : Nat} (hs : s < m) (m10 : m ≤ 1024) (s0 : s ≠ 0) (nc : ¬ can s) (hc : ∀ p, p < m → can p → fs_n p ≤ c) (c20 : c ≤ 100) (h10 : μ.1 65 10 = nI c) (hl : ∃ l, s.testBit l = true ∧ ∀ i, i < l → s.testBit i = false) (hf : ∀ p, p < s → ∃ f, fp_few can p f ∧ μ.1 70 p = nI f) : fm_T (f_Press_leastApart (nI s) μ) (fun r => ∃ f, fp_few can s f ∧ r = nI f) := by
  obtain ⟨l, hb, lo⟩ := hl
  have bits := fs_low1 hb lo (by omega)
  have n10 := fs_n10 s
  unfold f_Press_leastApart
  rw [fm_pc0 s (by omega), fm_bs, h10, fs_npc s (by omega)]
  have ecut : f_X_cutUp (nI (fs_n s)) (nI c) = some (nI (if 1 ≤ c then (fs_n s + c - 1) / c else 0)) := by
    by_cases q : 1 ≤ c
    · rw [if_pos q]; exact fx_cut (by omega) (by omega) q
    · rw [if_neg q]
      have : c = 0 := by omega
      subst this
      unfold f_X_cutUp
      rw [if_neg (show ¬ (1 : Int32) ≤ nI 0 by decide)]; rfl
  have cutb : (if 1 ≤ c then (fs_n s + c - 1) / c else 0) ≤ 10 := by
    by_cases q : 1 ≤ c
    · rw [if_pos q]
      have : (fs_n s + c - 1) / c < 11 := (Nat.div_lt_iff_lt_mul (by omega)).mpr (by
        have : 10 + c - 1 < 11 * c := by omega
        omega)
      omega
    · rw [if_neg q]; omega
  rw [ecut, fm_bs, fm_nm]
  generalize hcu : (if 1 ≤ c then (fs_n s + c - 1) / c else 0) = cu at cutb
  obtain ⟨bd, hbd, b2, b10, bcu⟩ : ∃ bd : Nat, (if 2 < nI cu then nI cu else 2) = nI bd ∧ 2 ≤ bd ∧ bd ≤ 10 ∧ (bd = 2 ∨ bd = cu) := by
    by_cases q : 2 < cu
    · exact ⟨cu, by rw [if_pos (show (2 : Int32) < nI cu from (nI_ltI (a := 2) (by omega) (by omega)).mpr q)], by omega, cutb, Or.inr rfl⟩
    · exact ⟨2, by rw [if_neg (show ¬ (2 : Int32) < nI cu from fun z => q ((nI_ltI (a := 2) (by omega) (by omega)).mp z))]; rfl, by omega, by omega, Or.inl rfl⟩
  rw [hbd, fm_nm, fm_and1 (by omega), fm_bind]
  generalize ho : s &&& (s - 1) = o at bits
  have os : fs_in o s := by
    apply fs_of
    intro i hi
    rw [bits] at hi
    cases e : s.testBit i
    · rw [e] at hi; simp at hi
    · rfl
  have ol := fs_le os
  -- a lower bound
  have low : ∀ k, fp_part can k s → bd ≤ k := fun k hk => by
    have k2 : 2 ≤ k := by
      cases k with
      | zero => exact absurd hk s0
      | succ k =>
        cases k with
        | zero =>
          obtain ⟨p, p0, p1, p2, p3⟩ := hk
          exfalso
          have e2 : s ^^^ p = 0 := p3
          have : p = s := by
            apply Nat.eq_of_testBit_eq
            intro i
            have z2 : (s ^^^ p).testBit i = false := by rw [e2]; simp
            rw [Nat.testBit_xor] at z2
            revert z2
            cases s.testBit i <;> cases p.testBit i <;> simp
          rw [this] at p2
          exact nc p2
        | succ k => omega
    rcases bcu with e | e
    · omega
    · rw [e, ← hcu]
      by_cases q : 1 ≤ c
      · rw [if_pos q]
        have h1 := fp_part_cap hc k s hs hk
        have : (fs_n s + c - 1) / c < k + 1 := (Nat.div_lt_iff_lt_mul (by omega)).mpr (by rw [Nat.succ_mul]; omega)
        omega
      · rw [if_neg q]; omega
  have key : ∀ p, ∃ f, p < s → fp_few can p f ∧ μ.1 70 p = nI f := fun p => by
    by_cases q : p < s
    · obtain ⟨f, f1⟩ := hf p q
      exact ⟨f, fun _ => f1⟩
    · exact ⟨0, fun a => absurd a q⟩
  obtain ⟨g, hg⟩ := Classical.axiomOfChoice key
  -- what a piece gives
  have up : ∀ x, fs_in x o → x ≠ 0 → can (s ^^^ x) → g x < 99 → fp_part can (g x + 1) s := fun x x1 x0 x2 x3 => by
    have xs := fs_tr x1 os
    have xl := fs_le x1
    have xlt : x < s := by
      by_cases q : x = s
      · exfalso
        have := fs_bit x1 (i := l) (by rw [q]; exact hb)
        rw [bits] at this
        simp at this
      · have := fs_le xs; omega
    obtain ⟨f1, f2⟩ := hg x xlt
    rcases f1 with ⟨_, f1, _⟩ | ⟨f1, _⟩
    · refine ⟨s ^^^ x, fun z => ?_, fs_x xs, x2, ?_⟩
      · have := fs_xlt xs x0
        have hx3 : (s ^^^ x).testBit l = true := by
          rw [fs_xbit xs, hb]
          cases e : x.testBit l
          · rfl
          · have := fs_bit x1 e; rw [bits] at this; simp at this
        rw [z] at hx3; simp at hx3
      · rw [← Nat.xor_assoc, Nat.xor_self, Nat.zero_xor]; exact f1
    · omega
  have dn : ∀ k, fp_part can k s → ∃ x, fs_in x o ∧ x ≠ 0 ∧ can (s ^^^ x) ∧ x < s ∧ g x + 1 ≤ k := fun k hk => by
    obtain ⟨p, p0, p1, p2, p3, p4, p5⟩ := fp_part_x k s l hk hb
    have x1 : fs_in (s ^^^ p) o := fs_of (fun i hi => by
      rw [fs_xbit p1] at hi
      rw [bits]
      by_cases e : i = l
      · subst e; rw [p2] at hi; simp at hi
      · cases q : s.testBit i
        · rw [q] at hi; simp at hi
        · simp [e])
    have xlt := fs_xlt p1 p0
    have e : s ^^^ (s ^^^ p) = p := by rw [← Nat.xor_assoc, Nat.xor_self, Nat.zero_xor]
    refine ⟨s ^^^ p, x1, fun z => ?_, by rw [e]; exact p3, xlt, ?_⟩
    · rw [z] at e
      rw [Nat.xor_zero] at e
      rw [← e] at p3
      exact nc p3
    · have := fp_few_le (hg _ xlt).1 p5
      omega
  have fin : ∀ v, (v = 99 ∨ ∃ x, fs_in x o ∧ x ≠ 0 ∧ can (s ^^^ x) ∧ v = g x + 1 ∧ v < 99) → ((v ≤ bd) ∨ ∀ x, fs_in x o → x ≠ 0 → can (s ^^^ x) → v ≤ g x + 1) → fp_few can s v := fun v h1 h2 => by
    have lw : ∀ k, fp_part can k s → v ≤ k := fun k hk => by
      rcases h2 with h2 | h2
      · have := low k hk; omega
      · obtain ⟨x, x1, x0, x2, _, x3⟩ := dn k hk
        have := h2 x x1 x0 x2
        omega
    rcases h1 with h1 | ⟨x, x1, x0, x2, x3, x4⟩
    · right
      refine ⟨h1, fun k hk => ?_⟩
      have := lw k hk
      have := fp_part_n k s (by omega) hk
      omega
    · left
      exact ⟨x4, by rw [x3]; exact up x x1 x0 x2 (by omega), fun k hk hh => by have := lw k hh; omega⟩
  refine fm_wh (P := fun i st => i ≤ o ∧ fs_in i o ∧ st.2 = nI i ∧ ∃ v, v ≤ 99 ∧ st.1 = nI v ∧ (v = 99 ∨ ∃ x, fs_in x o ∧ x ≠ 0 ∧ can (s ^^^ x) ∧ v = g x + 1 ∧ v < 99) ∧ ∀ x, fs_in x o → i < x → can (s ^^^ x) → v ≤ g x + 1) ?_ (i := o) ⟨Nat.le_refl _, Nat.and_self o, rfl, 99, Nat.le_refl _, rfl, Or.inl rfl, fun x x1 x2 => absurd (fs_le x1) (by omega)⟩ (by omega)
  rintro i ⟨y, x⟩ ⟨hio, hin, e1, v, v99, hv, v1, v2⟩
  simp only at e1 hv
  subst e1 hv
  unfold f_Press_leastApart_L30
  try dsimp only
  by_cases i0 : i = 0
  · subst i0
    rw [if_pos (show nI 0 ≤ 0 by decide), fm_some, fm_Kr, fm_some]
    exact ⟨v, fin v v1 (Or.inr (fun x x1 x0 x2 => v2 x x1 (by omega) x2)), rfl⟩
  · rw [if_neg (nI_nle (by omega) (by omega))]
    by_cases q : v ≤ bd
    · rw [if_pos (nI_le q (by omega)), fm_some, fm_Kr, fm_some]
      exact ⟨v, fin v v1 (Or.inl q), rfl⟩
    · have is := fs_tr hin os
      have hxl := fs_xlt is i0
      have ilt : i < s := by
        by_cases z : i = s
        · exfalso
          have := fs_bit hin (i := l) (by rw [z]; exact hb)
          rw [bits] at this
          simp at this
        · have := fs_le is; omega
      have hx0 : s ^^^ i ≠ 0 := fun z => by
        have hx3 : (s ^^^ i).testBit l = true := by
          rw [fs_xbit is, hb]
          cases e : i.testBit l
          · rfl
          · have := fs_bit hin e; rw [bits] at this; simp at this
        rw [z] at hx3; simp at hx3
      obtain ⟨f1, f2⟩ := hg (s ^^^ i) hxl
      obtain ⟨g1, g2⟩ := hg i ilt
      have g10 := fp_few_10 (by omega) g1
      have f10 := fp_few_10 (by omega) f1
      have one := fp_few_1 hx0 f1
      have nxt : ∀ u, u ≤ 99 → u ≤ v → (u = v ∨ (can (s ^^^ i) ∧ u = g i + 1 ∧ u < 99)) → (can (s ^^^ i) → u ≤ g i + 1) → ∃ j, j < i ∧ j ≤ o ∧ fs_in j o ∧ (nI i - 1) &&& nI o = nI j ∧ ∃ v, v ≤ 99 ∧ nI u = nI v ∧ (v = 99 ∨ ∃ x, fs_in x o ∧ x ≠ 0 ∧ can (s ^^^ x) ∧ v = g x + 1 ∧ v < 99) ∧ ∀ x, fs_in x o → j < x → can (s ^^^ x) → v ≤ g x + 1 := by
        intro u u99 uv u1 u2
        have hn := fs_nlt (s := o) (show 0 < i by omega)
        refine ⟨(i - 1) &&& o, hn, by omega, fs_nin, by rw [fm_pred (by omega), fm_and], u, u99, rfl, ?_, fun p p1 p2 p3 => ?_⟩
        · rcases u1 with e | ⟨q1, q2, q3⟩
          · rw [e]; exact v1
          · exact Or.inr ⟨i, hin, i0, q1, q2, q3⟩
        · by_cases c1 : i < p
          · exact Nat.le_trans uv (v2 p p1 c1 p3)
          · by_cases c2 : p = i
            · rw [c2] at p3 ⊢; exact u2 p3
            · have := fs_next o i p hin (by omega) p1 (by omega)
              omega
      rw [if_neg (nI_ge (by omega) (by omega)), fm_xor, fm_rd (by omega) (by omega), fm_bs, f2]
      by_cases c : can (s ^^^ i)
      · rw [if_pos (show nI (g (s ^^^ i)) = 1 by rw [one.mpr c]; rfl), fm_rd (by omega) (by omega), fm_bs, g2, nI_1]
        by_cases r : v ≤ g i + 1
        · rw [if_pos (nI_le r (by omega)), fm_bs, fm_nm, fm_some, fm_Kl]
          exact nxt v v99 (Nat.le_refl _) (Or.inl rfl) (fun _ => r)
        · rw [if_neg (nI_ge (by omega) (by omega)), fm_bs, fm_nmE, nI_1, fm_bs, fm_nm, fm_some, fm_Kl]
          exact nxt (g i + 1) (by omega) (by omega) (Or.inr ⟨c, rfl, by omega⟩) (fun _ => Nat.le_refl _)
      · rw [if_neg (show ¬ nI (g (s ^^^ i)) = 1 from fun z => c (one.mp ((nI_eq (b := 1) (by omega) (by omega)).mp z))), fm_bs, fm_nm, fm_some, fm_Kl]
        exact nxt v v99 (Nat.le_refl _) (Or.inl rfl) (fun z => absurd z c)
