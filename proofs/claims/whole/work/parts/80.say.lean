/-! what can be said -/
def fV (A B S : Nat → Prop) : Nat → Prop
  | 0 => True
  | 1 => A 0
  | i + 2 => (fV A B S (i + 1) ∧ A (i + 1)) ∨ (fV A B S i ∧ S i ∧ B i)
theorem fV_s {A B S : Nat → Prop} (i : Nat) : fV A B S (i + 1) ↔ (fV A B S i ∧ A i) ∨ (1 ≤ i ∧ fV A B S (i - 1) ∧ S (i - 1) ∧ B (i - 1)) := by
  cases i with
  | zero =>
    show A 0 ↔ (True ∧ A 0) ∨ _
    exact ⟨fun h => Or.inl ⟨trivial, h⟩, fun h => h.elim (fun z => z.2) (fun z => absurd z.1 (by omega))⟩
  | succ i =>
    show (fV A B S (i + 1) ∧ A (i + 1)) ∨ (fV A B S i ∧ S i ∧ B i) ↔ _
    exact ⟨fun h => h.imp id (fun z => ⟨by omega, z⟩), fun h => h.imp id (fun z => z.2)⟩
theorem fV_c {A B S A2 B2 : Nat → Prop} {n : Nat} (hA : ∀ i, i < n → (A i ↔ A2 i)) (hB : ∀ i, i < n → (B i ↔ B2 i)) : ∀ i, i ≤ n → (fV A B S i ↔ fV A2 B2 S i) := by
  intro i
  induction i using Nat.strongRecOn with
  | ind i ih =>
    intro hi
    cases i with
    | zero => exact Iff.rfl
    | succ i =>
      rw [fV_s, fV_s, ih i (by omega) (by omega), hA i (by omega)]
      by_cases q : 1 ≤ i
      · rw [ih (i - 1) (by omega) (by omega), hB (i - 1) (by omega)]
      · exact ⟨fun h => h.imp id (fun z => absurd z.1 q), fun h => h.imp id (fun z => absurd z.1 q)⟩
theorem fq_skip {al jo : Nat → Nat → Prop} {n m s q : Nat} {F : Nat → Prop} (hq : q ≤ n) (h : fq al jo n m s q F) : ∀ d, d ≤ q → (∀ j, q - d ≤ j → j < q → s.testBit j = false) → fq al jo n m s (q - d) F := by
  intro d
  induction d with
  | zero => intro _ _; exact h
  | succ d ih =>
    intro hd hb
    have h2 := ih (by omega) (fun j j1 j2 => hb j (by omega) j2)
    rw [show q - d = q - (d + 1) + 1 by omega] at h2
    exact (fq_st (by omega)).mpr (Or.inl ⟨hb _ (by omega) (by omega), h2⟩)
theorem fq_rest {al jo : Nat → Nat → Prop} {n m s q : Nat} {F : Nat → Prop} (hb : ∀ j, q ≤ j → s.testBit j = false) : fq al jo n m s q F := by
  by_cases hq : q ≤ n
  · have := fq_skip (al := al) (jo := jo) (n := n) (m := m) (s := s) (q := n) (F := F) (Nat.le_refl _) (fq_end (Nat.le_refl _)) (n - q) (by omega) (fun j j1 _ => hb j (by omega))
    rw [show n - (n - q) = q by omega] at this
    exact this
  · exact fq_end (by omega)
theorem fp_can_one {T : List fm_Ty} {L : fm_Li} {w i t : Nat} (hi : i < L.1.length) (ht : t < T.length) (h : fp_pr T L t i) : fp_can T L w (2 ^ i) := by
  rw [fp_can_q]
  have tb : ∀ j, (2 ^ i).testBit j = decide (i = j) := fun j => Nat.testBit_two_pow
  have h1 : fq (fp_al T L w (2 ^ i)) (fp_jo T L w (2 ^ i)) L.1.length T.length (2 ^ i) i (fu 0) := by
    refine (fq_st hi).mpr (Or.inr ⟨by rw [tb]; simp, t, ht, by unfold fu; simp, Or.inl ⟨⟨h, fun z => ?_⟩, fq_rest (fun j hj => by rw [tb]; exact decide_eq_false (by omega))⟩⟩)
    have := z.2.2
    rw [tb] at this
    have := of_decide_eq_true this
    omega
  have := fq_skip (Nat.le_of_lt hi) h1 i (Nat.le_refl _) (fun j _ hj => by rw [tb]; exact decide_eq_false (by omega))
  rw [Nat.sub_self] at this
  exact this
theorem fp_can_two {T : List fm_Ty} {L : fm_Li} {w i t : Nat} (hb : fp_bs L i) (ht : t < T.length) (h : fp_jn T L t i) : fp_can T L w (2 ^ i ||| 2 ^ (i + 1)) := by
  rw [fp_can_q]
  have hi := hb.1
  have tb : ∀ j, (2 ^ i ||| 2 ^ (i + 1)).testBit j = (decide (i = j) || decide (i + 1 = j)) := fun j => by rw [Nat.testBit_or, Nat.testBit_two_pow, Nat.testBit_two_pow]
  have h1 : fq (fp_al T L w (2 ^ i ||| 2 ^ (i + 1))) (fp_jo T L w (2 ^ i ||| 2 ^ (i + 1))) L.1.length T.length (2 ^ i ||| 2 ^ (i + 1)) i (fu 0) := by
    refine (fq_st (by omega)).mpr (Or.inr ⟨by rw [tb]; simp, t, ht, by unfold fu; simp, Or.inr ⟨⟨h, hb, by rw [tb]; simp, fun z => ?_⟩, by omega, fq_rest (fun j hj => by rw [tb, decide_eq_false (by omega), decide_eq_false (by omega)]; rfl)⟩⟩)
    have := z.2.2
    rw [tb, decide_eq_false (by omega), decide_eq_false (by omega)] at this
    cases this
  have := fq_skip (by omega) h1 i (Nat.le_refl _) (fun j _ hj => by rw [tb, decide_eq_false (by omega), decide_eq_false (by omega)]; rfl)
  rw [Nat.sub_self] at this
  exact this
theorem fV_part {T : List fm_Ty} {L : fm_Li} {w : Nat} : ∀ i, i ≤ L.1.length → fV (fun i => ∃ t, t < T.length ∧ fp_pr T L t i) (fun i => ∃ t, t < T.length ∧ fp_jn T L t i) (fp_bs L) i → ∃ k, fp_part (fp_can T L w) k (2 ^ i - 1) := by
  intro i
  induction i using Nat.strongRecOn with
  | ind i ih =>
    intro hi h
    cases i with
    | zero => exact ⟨0, rfl⟩
    | succ i =>
      have tb : ∀ (a j : Nat), (2 ^ a - 1).testBit j = decide (j < a) := fun a j => fm_allbits
      rcases (fV_s i).mp h with ⟨h1, t, t1, t2⟩ | ⟨i1, h1, h2, t, t1, t2⟩
      · obtain ⟨k, hk⟩ := ih i (by omega) (by omega) h1
        refine ⟨k + 1, 2 ^ i, Nat.ne_of_gt (Nat.two_pow_pos i), fs_of (fun j hj => ?_), fp_can_one (by omega) t1 t2, ?_⟩
        · rw [Nat.testBit_two_pow] at hj
          rw [tb]
          have := of_decide_eq_true hj
          exact decide_eq_true (by omega)
        · have e : (2 ^ (i + 1) - 1) ^^^ 2 ^ i = 2 ^ i - 1 := by
            apply Nat.eq_of_testBit_eq
            intro j
            rw [Nat.testBit_xor, tb, tb, Nat.testBit_two_pow]
            by_cases c1 : j < i
            · rw [decide_eq_true (show j < i + 1 by omega), decide_eq_false (show ¬ i = j by omega), decide_eq_true c1]; rfl
            · by_cases c2 : j = i
              · rw [decide_eq_true (show j < i + 1 by omega), decide_eq_true (show i = j by omega), decide_eq_false c1]; rfl
              · rw [decide_eq_false (show ¬ j < i + 1 by omega), decide_eq_false (show ¬ i = j by omega), decide_eq_false c1]; rfl
          rw [e]; exact hk
      · obtain ⟨j, rfl⟩ : ∃ j, i = j + 1 := ⟨i - 1, by omega⟩
        obtain ⟨k, hk⟩ := ih j (by omega) (by omega) h1
        refine ⟨k + 1, 2 ^ j ||| 2 ^ (j + 1), fun z => ?_, fs_of (fun x hx => ?_), fp_can_two h2 t1 t2, ?_⟩
        · have : (2 ^ j ||| 2 ^ (j + 1)).testBit j = true := by rw [Nat.testBit_or, Nat.testBit_two_pow]; simp
          rw [z] at this; simp at this
        · rw [Nat.testBit_or, Nat.testBit_two_pow, Nat.testBit_two_pow] at hx
          rw [tb]
          apply decide_eq_true
          simp at hx
          omega
        · have e : (2 ^ (j + 1 + 1) - 1) ^^^ (2 ^ j ||| 2 ^ (j + 1)) = 2 ^ j - 1 := by
            apply Nat.eq_of_testBit_eq
            intro x
            rw [Nat.testBit_xor, tb, tb, Nat.testBit_or, Nat.testBit_two_pow, Nat.testBit_two_pow]
            by_cases c1 : x < j
            · rw [decide_eq_true (show x < j + 1 + 1 by omega), decide_eq_false (show ¬ j = x by omega), decide_eq_false (show ¬ j + 1 = x by omega), decide_eq_true c1]; rfl
            · rw [decide_eq_false c1]
              by_cases c2 : x = j
              · rw [decide_eq_true (show x < j + 1 + 1 by omega), decide_eq_true (show j = x by omega)]; rfl
              · by_cases c3 : x = j + 1
                · rw [decide_eq_true (show x < j + 1 + 1 by omega), decide_eq_true (show j + 1 = x by omega)]; simp
                · rw [decide_eq_false (show ¬ x < j + 1 + 1 by omega), decide_eq_false (show ¬ j = x by omega), decide_eq_false (show ¬ j + 1 = x by omega)]; rfl
          rw [e]; exact hk
/-- where pieces of two begin -/
def fJ (T : List fm_Ty) (L : fm_Li) (s : Nat) (J : Nat → Prop) (i : Nat) : Prop := (J i → (∃ t, t < T.length ∧ fp_jn T L t i) ∧ fp_bs L i ∧ s.testBit (i + 1) = true ∧ ¬ J (i + 1) ∧ ¬ (1 ≤ i ∧ J (i - 1))) ∧ (¬ J i → ¬ (1 ≤ i ∧ J (i - 1)) → ∃ t, t < T.length ∧ fp_pr T L t i)
theorem fq_J {T : List fm_Ty} {L : fm_Li} {w s : Nat} : ∀ (k p : Nat) (F : Nat → Prop), L.1.length - p ≤ k → s < 2 ^ L.1.length → fq (fp_al T L w s) (fp_jo T L w s) L.1.length T.length s p F → ∃ J : Nat → Prop, (∀ i, J i → p ≤ i ∧ s.testBit i = true) ∧ ∀ i, p ≤ i → s.testBit i = true → fJ T L s J i := by
  intro k
  induction k with
  | zero =>
    intro p F hk hs _
    refine ⟨fun _ => False, fun i z => z.elim, fun i hi hb => ?_⟩
    rw [Nat.testBit_lt_two_pow (Nat.lt_of_lt_of_le hs (fm_pow8 (by omega)))] at hb
    cases hb
  | succ k ih =>
    intro p F hk hs h
    by_cases hp : p < L.1.length
    · rcases (fq_st hp).mp h with ⟨b, h1⟩ | ⟨b, t, t1, t2, (⟨z1, z2⟩ | ⟨z1, z2, z3⟩)⟩
      · obtain ⟨J, j1, j2⟩ := ih (p + 1) F (by omega) hs h1
        refine ⟨J, fun i hi => ⟨by have := (j1 i hi).1; omega, (j1 i hi).2⟩, fun i hi hb => ?_⟩
        by_cases e : i = p
        · rw [e, b] at hb; cases hb
        · exact j2 i (by omega) hb
      · obtain ⟨J, j1, j2⟩ := ih (p + 1) _ (by omega) hs z2
        refine ⟨J, fun i hi => ⟨by have := (j1 i hi).1; omega, (j1 i hi).2⟩, fun i hi hb => ?_⟩
        by_cases e : i = p
        · subst e
          exact ⟨fun z => absurd (j1 _ z).1 (by omega), fun _ _ => ⟨t, t1, z1.1⟩⟩
        · exact j2 i (by omega) hb
      · obtain ⟨J, j1, j2⟩ := ih (p + 2) _ (by omega) hs z3
        refine ⟨fun i => J i ∨ i = p, fun i hi => ?_, fun i hi hb => ?_⟩
        · rcases hi with hi | hi
          · exact ⟨by have := (j1 i hi).1; omega, (j1 i hi).2⟩
          · rw [hi]; exact ⟨Nat.le_refl _, b⟩
        · by_cases e : i = p
          · subst e
            refine ⟨fun _ => ⟨⟨t, t1, z1.1⟩, z1.2.1, z1.2.2.1, fun z => ?_, fun z => ?_⟩, fun z => absurd (Or.inr rfl) z⟩
            · rcases z with z | z
              · exact absurd (j1 _ z).1 (by omega)
              · omega
            · rcases z.2 with y | y
              · exact absurd (j1 _ y).1 (by omega)
              · omega
          · by_cases e1 : i = p + 1
            · subst e1
              refine ⟨fun z => ?_, fun _ z => absurd ⟨by omega, Or.inr (by omega)⟩ z⟩
              rcases z with z | z
              · exact absurd (j1 _ z).1 (by omega)
              · omega
            · obtain ⟨a1, a2⟩ := j2 i (by omega) hb
              refine ⟨fun z => ?_, fun z y => a2 (fun q => z (Or.inl q)) (fun q => y ⟨q.1, Or.inl q.2⟩)⟩
              rcases z with z | z
              · obtain ⟨b1, b2, b3, b4, b5⟩ := a1 z
                refine ⟨b1, b2, b3, fun y => y.elim b4 (fun q => by omega), fun y => ?_⟩
                rcases y.2 with q | q
                · exact b5 ⟨y.1, q⟩
                · omega
              · omega
    · refine ⟨fun _ => False, fun i z => z.elim, fun i hi hb => ?_⟩
      rw [Nat.testBit_lt_two_pow (Nat.lt_of_lt_of_le hs (fm_pow8 (by omega)))] at hb
      cases hb
theorem fp_part_J {T : List fm_Ty} {L : fm_Li} {w : Nat} : ∀ (k s : Nat), s < 2 ^ L.1.length → fp_part (fp_can T L w) k s → ∃ J : Nat → Prop, (∀ i, J i → s.testBit i = true) ∧ ∀ i, s.testBit i = true → fJ T L s J i := by
  intro k
  induction k with
  | zero =>
    intro s _ h
    have : s = 0 := h
    subst this
    exact ⟨fun _ => False, fun i z => z.elim, fun i hb => by simp at hb⟩
  | succ k ih =>
    intro s hs ⟨p, p0, p1, p2, p3⟩
    have l1 := fs_le p1
    have l2 := fs_le (fs_x p1)
    obtain ⟨J1, a1, a2⟩ := fq_J L.1.length 0 _ (by omega) (by omega) (fp_can_q.mp p2)
    obtain ⟨J2, b1, b2⟩ := ih (s ^^^ p) (by omega) p3
    have sp : ∀ i, s.testBit i = true → p.testBit i = true ∨ (s ^^^ p).testBit i = true := fun i hi => by
      rw [fs_xbit p1, hi]; cases p.testBit i <;> simp
    have dis : ∀ i, p.testBit i = true → ¬ (s ^^^ p).testBit i = true := fun i hi => by rw [fs_xbit p1, hi]; simp
    refine ⟨fun i => J1 i ∨ J2 i, fun i z => z.elim (fun y => fs_bit p1 (a1 i y).2) (fun y => fs_bit (fs_x p1) (b1 i y)), fun i hi => ?_⟩
    rcases sp i hi with hp | hx
    · obtain ⟨c1, c2⟩ := a2 i (Nat.zero_le _) hp
      have n2 : ¬ J2 i := fun z => dis i hp (b1 i z)
      have pr : 1 ≤ i → J2 (i - 1) → False := fun q1 q2 => by
        have := ((b2 (i - 1) (b1 _ q2)).1 q2).2.2.1
        rw [show i - 1 + 1 = i by omega] at this
        exact dis i hp this
      refine ⟨fun z => ?_, fun z y => c2 (fun q => z (Or.inl q)) (fun q => y ⟨q.1, Or.inl q.2⟩)⟩
      have z1 := z.resolve_right n2
      obtain ⟨d1, d2, d3, d4, d5⟩ := c1 z1
      refine ⟨d1, d2, fs_bit p1 d3, fun y => y.elim d4 (fun q => dis _ d3 (b1 _ q)), fun y => y.2.elim (fun q => d5 ⟨y.1, q⟩) (fun q => pr y.1 q)⟩
    · obtain ⟨c1, c2⟩ := b2 i hx
      have n1 : ¬ J1 i := fun z => dis i (a1 i z).2 hx
      have pr : 1 ≤ i → J1 (i - 1) → False := fun q1 q2 => by
        have := ((a2 (i - 1) (Nat.zero_le _) (a1 _ q2).2).1 q2).2.2.1
        rw [show i - 1 + 1 = i by omega] at this
        exact dis i this hx
      refine ⟨fun z => ?_, fun z y => c2 (fun q => z (Or.inr q)) (fun q => y ⟨q.1, Or.inr q.2⟩)⟩
      have z1 := z.resolve_left n1
      obtain ⟨d1, d2, d3, d4, d5⟩ := c1 z1
      refine ⟨d1, d2, fs_bit (fs_x p1) d3, fun y => y.elim (fun q => dis _ (a1 _ q).2 d3) d4, fun y => y.2.elim (fun q => pr y.1 q) (fun q => d5 ⟨y.1, q⟩)⟩
theorem fV_iff {T : List fm_Ty} {L : fm_Li} {w : Nat} : fV (fun i => ∃ t, t < T.length ∧ fp_pr T L t i) (fun i => ∃ t, t < T.length ∧ fp_jn T L t i) (fp_bs L) L.1.length ↔ ∃ k, fp_part (fp_can T L w) k (fp_all L) := by
  constructor
  · exact fV_part L.1.length (Nat.le_refl _)
  · rintro ⟨k, hk⟩
    have p1 : 1 ≤ 2 ^ L.1.length := Nat.one_le_two_pow
    obtain ⟨J, j1, j2⟩ := fp_part_J k (fp_all L) (by unfold fp_all; omega) hk
    have tb : ∀ j, (fp_all L).testBit j = decide (j < L.1.length) := fun j => fm_allbits
    have key : ∀ i, i ≤ L.1.length → ¬ (1 ≤ i ∧ J (i - 1)) → fV (fun i => ∃ t, t < T.length ∧ fp_pr T L t i) (fun i => ∃ t, t < T.length ∧ fp_jn T L t i) (fp_bs L) i := by
      intro i
      induction i using Nat.strongRecOn with
      | ind i ih =>
        intro hi hn
        cases i with
        | zero => trivial
        | succ i =>
          rw [fV_s]
          have ni : ¬ J i := fun z => hn ⟨by omega, z⟩
          obtain ⟨a1, a2⟩ := j2 i (by rw [tb]; exact decide_eq_true (by omega))
          by_cases q : 1 ≤ i ∧ J (i - 1)
          · obtain ⟨b1, b2, b3, b4, b5⟩ := (j2 (i - 1) (by rw [tb]; exact decide_eq_true (by omega))).1 q.2
            exact Or.inr ⟨q.1, ih (i - 1) (by omega) (by omega) b5, b2, b1⟩
          · exact Or.inl ⟨ih i (by omega) (by omega) q, a2 ni q⟩
    refine key _ (Nat.le_refl _) (fun z => ?_)
    have := ((j2 _ (j1 _ z.2)).1 z.2).2.1.1
    omega
/-! the class's test -/
theorem fx_someP {μ : fw_M} {T : List fm_Ty} {L : fm_Li} {p : Nat} {a2 : Int32} (h : rT (μ.1 2 3) (μ.1 3) (μ.1 4) (μ.1 5) T) (wt : wT T) (wl : wL L) (hp : p < L.1.length) : f_Case_somePrints_2 (nI (fm_ll L p)) a2 μ = some (fB (∃ t, t < T.length ∧ nI t ≠ a2 ∧ fp_pr T L t p)) := by
  have t10 := wt.1
  apply fm_eq
  unfold f_Case_somePrints_2
  rw [fm_bind]
  refine fm_up (P := fun i st => st = nI i ∧ ∀ t, t < i → ¬ (nI t ≠ a2 ∧ fp_pr T L t p)) T.length ?_ ?_ 0 (Nat.zero_le _) ⟨rfl, fun t ht => absurd ht (Nat.not_lt_zero _)⟩ (by omega)
  · rintro i _ hi ⟨rfl, hk⟩
    unfold f_Case_somePrints_2_L2
    rw [h.1, if_neg (nI_ge hi (by omega))]
    have nxt : ¬ (nI i ≠ a2 ∧ fp_pr T L i p) → fm_T (fw_nm (nI i + 1) fun (v26 : Int32) => (some (.inl v26) : Option (Int32 ⊕ (Unit ⊕ Int32)))) (fm_K (fun s1 => s1 = nI (i + 1) ∧ ∀ t, t < i + 1 → ¬ (nI t ≠ a2 ∧ fp_pr T L t p)) (fun a => fm_T (match a with | .inl _ => some 0 | .inr r2 => some r2) fun r => r = fB (∃ t, t < T.length ∧ nI t ≠ a2 ∧ fp_pr T L t p))) := by
      intro no
      rw [fm_nm, fm_some, fm_Kl]
      refine ⟨nI_1 i, fun t ht => ?_⟩
      by_cases e : t = i
      · rw [e]; exact no
      · exact hk t (by omega)
    by_cases q : nI i = a2
    · rw [if_pos q]
      exact nxt (fun z => z.1 q)
    · rw [if_neg q, fx_prints h wt wl hi hp, fm_bs]
      by_cases c : fp_pr T L i p
      · rw [fB1 c, if_neg fm_n10, fm_some, fm_Kr, fm_some, fB1 ⟨i, hi, q, c⟩]
      · rw [fB0 c, if_pos rfl]
        exact nxt (fun z => c z.2)
  · rintro _ ⟨rfl, hk⟩
    unfold f_Case_somePrints_2_L2
    rw [h.1, if_pos (nI_le (Nat.le_refl _) (by omega)), fm_some, fm_Kr, fm_some, fB0 (fun ⟨t, t1, t2⟩ => hk t t1 t2)]
theorem fx_someJ {μ : fw_M} {T : List fm_Ty} {L : fm_Li} {p : Nat} {a2 : Int32} (h : rT (μ.1 2 3) (μ.1 3) (μ.1 4) (μ.1 5) T) (wt : wT T) (wl : wL L) (hp : p + 1 < L.1.length) : f_Case_someJoins_2 (nI (fm_ll L p)) (nI (fm_ll L (p + 1))) a2 μ = some (fB (∃ t, t < T.length ∧ nI t ≠ a2 ∧ fp_jn T L t p)) := by
  have t10 := wt.1
  apply fm_eq
  unfold f_Case_someJoins_2
  rw [fm_bind]
  refine fm_up (P := fun i st => st = nI i ∧ ∀ t, t < i → ¬ (nI t ≠ a2 ∧ fp_jn T L t p)) T.length ?_ ?_ 0 (Nat.zero_le _) ⟨rfl, fun t ht => absurd ht (Nat.not_lt_zero _)⟩ (by omega)
  · rintro i _ hi ⟨rfl, hk⟩
    unfold f_Case_someJoins_2_L3
    rw [h.1, if_neg (nI_ge hi (by omega))]
    have nxt : ¬ (nI i ≠ a2 ∧ fp_jn T L i p) → fm_T (fw_nm (nI i + 1) fun (v26 : Int32) => (some (.inl v26) : Option (Int32 ⊕ (Unit ⊕ Int32)))) (fm_K (fun s1 => s1 = nI (i + 1) ∧ ∀ t, t < i + 1 → ¬ (nI t ≠ a2 ∧ fp_jn T L t p)) (fun a => fm_T (match a with | .inl _ => some 0 | .inr r2 => some r2) fun r => r = fB (∃ t, t < T.length ∧ nI t ≠ a2 ∧ fp_jn T L t p))) := by
      intro no
      rw [fm_nm, fm_some, fm_Kl]
      refine ⟨nI_1 i, fun t ht => ?_⟩
      by_cases e : t = i
      · rw [e]; exact no
      · exact hk t (by omega)
    by_cases q : nI i = a2
    · rw [if_pos q]
      exact nxt (fun z => z.1 q)
    · rw [if_neg q, fx_joins h wt wl hi hp, fm_bs]
      by_cases c : fp_jn T L i p
      · rw [fB1 c, if_neg fm_n10, fm_some, fm_Kr, fm_some, fB1 ⟨i, hi, q, c⟩]
      · rw [fB0 c, if_pos rfl]
        exact nxt (fun z => c z.2)
  · rintro _ ⟨rfl, hk⟩
    unfold f_Case_someJoins_2_L3
    rw [h.1, if_pos (nI_le (Nat.le_refl _) (by omega)), fm_some, fm_Kr, fm_some, fB0 (fun ⟨t, t1, t2⟩ => hk t t1 t2)]
theorem fx_say {μ : fw_M} {T : List fm_Ty} {L : fm_Li} {t0 : Nat} {a2 : Int32} (hok : fw_okL t0) (h : rT (μ.1 2 3) (μ.1 3) (μ.1 4) (μ.1 5) T) (wt : wT T) (hL : xL t0 μ L) (wl : wL L) : f_Line_isSayable t0 a2 μ = some (fB (fV (fun i => ∃ t, t < T.length ∧ nI t ≠ a2 ∧ fp_pr T L t i) (fun i => ∃ t, t < T.length ∧ nI t ≠ a2 ∧ fp_jn T L t i) (fp_bs L) L.1.length)) := by
  have l10 := wl.1
  apply fm_eq
  unfold f_Line_isSayable
  rw [if_pos hok, fm_bind]
  generalize hA : (fun i => ∃ t, t < T.length ∧ nI t ≠ a2 ∧ fp_pr T L t i) = A
  generalize hB : (fun i => ∃ t, t < T.length ∧ nI t ≠ a2 ∧ fp_jn T L t i) = B
  have eA : ∀ i, i < L.1.length → f_Case_somePrints_2 (nI (fm_ll L i)) a2 μ = some (fB (A i)) := fun i hi => by rw [fx_someP h wt wl hi, ← hA]
  have eB : ∀ i, i + 1 < L.1.length → f_Case_someJoins_2 (nI (fm_ll L i)) (nI (fm_ll L (i + 1))) a2 μ = some (fB (B i)) := fun i hi => by rw [fx_someJ h wt wl hi, ← hB]
  refine fm_up (P := fun i st => st = (fB (1 ≤ i ∧ fV A B (fp_bs L) (i - 1)), fB (fV A B (fp_bs L) i), nI i)) L.1.length ?_ ?_ 0 (Nat.zero_le _) (by rw [fB0 (fun z => absurd z.1 (by omega)), fB1 (show fV A B (fp_bs L) 0 from trivial)]; rfl) (by omega)
  · rintro i _ hi rfl
    unfold f_Line_isSayable_L8
    try dsimp only
    rw [show μ.1 t0 1 = nI L.1.length from hL.1.1, if_neg (nI_ge hi (by omega)), fm_rd (by omega) (by omega), fm_bs, hL.1.2 i hi, eA i hi, fm_bs]
    have s1 : (if fB (fV A B (fp_bs L) i) = 0 then (some 0 : Option Int32) else if fB (A i) = 0 then some 0 else some 1) = some (fB (fV A B (fp_bs L) i ∧ A i)) := by
      by_cases c1 : fV A B (fp_bs L) i
      · rw [fB1 c1, if_neg fm_n10]
        by_cases c2 : A i
        · rw [fB1 c2, if_neg fm_n10, fB1 ⟨c1, c2⟩]
        · rw [fB0 c2, if_pos rfl, fB0 (fun z => c2 z.2)]
      · rw [fB0 c1, if_pos rfl, fB0 (fun z => c1 z.1)]
    rw [s1, fm_bs]
    have s2 : (if fB (1 ≤ i ∧ fV A B (fp_bs L) (i - 1)) = 0 then (some 0 : Option Int32) else (f_Line_besideNext t0 (nI i - 1) μ).bind fun (p53 : Int32) => if p53 = 0 then some 0 else (fw_rd 10 (μ.1 (t0 + 1)) (nI i - 1)).bind fun v68 => (some (nI (fm_ll L i))).bind fun v75 => (f_Case_someJoins_2 v68 v75 a2 μ).bind fun (p77 : Int32) => if p77 = 0 then some 0 else some 1) = some (fB (1 ≤ i ∧ fV A B (fp_bs L) (i - 1) ∧ fp_bs L (i - 1) ∧ B (i - 1))) := by
      by_cases c1 : 1 ≤ i ∧ fV A B (fp_bs L) (i - 1)
      · rw [fB1 c1, if_neg fm_n10]
        obtain ⟨j, rfl⟩ : ∃ j, i = j + 1 := ⟨i - 1, by omega⟩
        rw [nI_pred, fx_beside2 hok hL.2 wl (by omega), fm_bs]
        by_cases c2 : j + 1 < L.1.length ∧ L.2.testBit j = false
        · rw [if_pos c2, if_neg fm_n10, fm_rd (by omega) (by omega), fm_bs, hL.1.2 j (by omega), fm_bs, eB j hi, fm_bs]
          by_cases c3 : B j
          · rw [fB1 c3, if_neg fm_n10, fB1 (show 1 ≤ j + 1 ∧ fV A B (fp_bs L) (j + 1 - 1) ∧ fp_bs L (j + 1 - 1) ∧ B (j + 1 - 1) from ⟨c1.1, c1.2, c2, c3⟩)]
          · rw [fB0 c3, if_pos rfl, fB0 (show ¬ (1 ≤ j + 1 ∧ fV A B (fp_bs L) (j + 1 - 1) ∧ fp_bs L (j + 1 - 1) ∧ B (j + 1 - 1)) from fun z => c3 z.2.2.2)]
        · rw [if_neg c2, if_pos rfl, fB0 (show ¬ (1 ≤ j + 1 ∧ fV A B (fp_bs L) (j + 1 - 1) ∧ fp_bs L (j + 1 - 1) ∧ B (j + 1 - 1)) from fun z => c2 z.2.2.1)]
      · rw [fB0 c1, if_pos rfl, fB0 (fun z => c1 ⟨z.1, z.2.1⟩)]
    rw [s2, fm_bs, fm_nm, fm_nm, fm_some, fm_Kl, nI_1]
    have s3 : (if fB (fV A B (fp_bs L) i ∧ A i) = 0 then (if fB (1 ≤ i ∧ fV A B (fp_bs L) (i - 1) ∧ fp_bs L (i - 1) ∧ B (i - 1)) = 0 then (0 : Int32) else 1) else 1) = fB (fV A B (fp_bs L) (i + 1)) := by
      have sv := fV_s (A := A) (B := B) (S := fp_bs L) i
      by_cases c1 : fV A B (fp_bs L) i ∧ A i
      · rw [fB1 c1, if_neg fm_n10, fB1 (sv.mpr (Or.inl c1))]
      · rw [fB0 c1, if_pos rfl]
        by_cases c2 : 1 ≤ i ∧ fV A B (fp_bs L) (i - 1) ∧ fp_bs L (i - 1) ∧ B (i - 1)
        · rw [fB1 c2, if_neg fm_n10, fB1 (sv.mpr (Or.inr c2))]
        · rw [fB0 c2, if_pos rfl, fB0 (fun z => (sv.mp z).elim c1 c2)]
    rw [s3, show i + 1 - 1 = i by omega, fBi (show (1 ≤ i + 1 ∧ fV A B (fp_bs L) i) ↔ fV A B (fp_bs L) i from ⟨fun z => z.2, fun z => ⟨by omega, z⟩⟩)]
  · rintro _ rfl
    unfold f_Line_isSayable_L8
    try dsimp only
    rw [show μ.1 t0 1 = nI L.1.length from hL.1.1, if_pos (nI_le (Nat.le_refl _) (by omega)), fm_some, fm_Kr, fBz, fm_bs, fm_some]
theorem fx_say1 {μ : fw_M} {T : List fm_Ty} {L : fm_Li} {t0 w : Nat} (hok : fw_okL t0) (h : rT (μ.1 2 3) (μ.1 3) (μ.1 4) (μ.1 5) T) (wt : wT T) (hL : xL t0 μ L) (wl : wL L) : f_Line_isSayable t0 (-1) μ = some (fB (∃ k, fp_part (fp_can T L w) k (fp_all L))) := by
  have t10 := wt.1
  rw [fx_say hok h wt hL wl]
  congr 1
  apply fBi
  rw [← fV_iff]
  refine fV_c (n := L.1.length) (fun i _ => ?_) (fun i _ => ?_) _ (Nat.le_refl _)
  · exact ⟨fun ⟨t, t1, _, t2⟩ => ⟨t, t1, t2⟩, fun ⟨t, t1, t2⟩ => ⟨t, t1, fm_nne (by omega), t2⟩⟩
  · exact ⟨fun ⟨t, t1, _, t2⟩ => ⟨t, t1, t2⟩, fun ⟨t, t1, t2⟩ => ⟨t, t1, fm_nne (by omega), t2⟩⟩
