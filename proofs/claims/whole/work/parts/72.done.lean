/-! done -/
def fm_pc (s : Nat) : Nat := s % 2 + s / 2 % 2 + s / 4 % 2 + s / 8 % 2 + s / 16 % 2 + s / 32 % 2 + s / 64 % 2 + s / 128 % 2 + s / 256 % 2 + s / 512 % 2
theorem fm_pc0 : ∀ s, s < 1024 → f_Integer_bitCount (nI s) = some (nI (fm_pc s)) := by decide +kernel
theorem fm_pc1 : ∀ s, s < 1024 → 0 < s → fm_pc (s &&& (s - 1)) + 1 = fm_pc s := by decide +kernel
theorem fm_m2 (x : Nat) : x % 2 ≤ 1 := Nat.le_of_lt_succ (Nat.mod_lt x (by decide))
theorem fm_pc10 (s : Nat) : fm_pc s ≤ 10 := Nat.le_trans (Nat.add_le_add (Nat.add_le_add (Nat.add_le_add (Nat.add_le_add (Nat.add_le_add (Nat.add_le_add (Nat.add_le_add (Nat.add_le_add (Nat.add_le_add (fm_m2 s) (fm_m2 (s / 2))) (fm_m2 (s / 4))) (fm_m2 (s / 8))) (fm_m2 (s / 16))) (fm_m2 (s / 32))) (fm_m2 (s / 64))) (fm_m2 (s / 128))) (fm_m2 (s / 256))) (fm_m2 (s / 512))) (by decide)
theorem fm_and1 {s : Nat} (h : 1 ≤ s) : nI s &&& (nI s - 1) = nI (s &&& (s - 1)) := by rw [fm_pred h, fm_and]
theorem fy_size {s : Nat} (h : s < 1024) : f_M_size (nI s) = some (nI (fm_pc s)) := by
  unfold f_M_size
  apply fm_eq
  rw [fm_bind]
  refine fm_wh (P := fun i st => ∃ c, i < 1024 ∧ st = (nI c, nI i) ∧ c + fm_pc i = fm_pc s) ?_ (i := s) ⟨0, h, rfl, by omega⟩ (by omega)
  rintro i _ ⟨c, hi, rfl, hc⟩
  unfold f_M_size_L4
  try dsimp only
  by_cases e : i = 0
  · subst e
    rw [if_pos (show nI 0 = 0 from rfl), fm_some, fm_Kr, fm_some, ← hc]
    rfl
  · rw [if_neg (nI_ne0 (by omega) (by omega)), fm_nm, fm_nm, fm_some, fm_Kl, fm_and1 (by omega), nI_1]
    have h1 := fm_pc1 i hi (by omega)
    have h2 : i &&& (i - 1) ≤ i - 1 := Nat.and_le_right
    exact ⟨i &&& (i - 1), by omega, c + 1, by omega, rfl, by omega⟩
def fm_su (g : Nat → Nat) : Nat → Nat
  | 0 => 0
  | i + 1 => fm_su g i + g i
theorem fm_su_cong {f g : Nat → Nat} : ∀ n, (∀ i, i < n → f i = g i) → fm_su f n = fm_su g n := by
  intro n
  induction n with
  | zero => intro _; rfl
  | succ n ih =>
    intro h
    show fm_su f n + f n = fm_su g n + g n
    rw [ih (fun i hi => h i (by omega)), h n (by omega)]
theorem fm_su_le {f g : Nat → Nat} : ∀ n, (∀ i, i < n → f i ≤ g i) → fm_su f n ≤ fm_su g n := by
  intro n
  induction n with
  | zero => intro _; exact Nat.le_refl _
  | succ n ih =>
    intro h
    show fm_su f n + f n ≤ fm_su g n + g n
    have h1 := ih (fun i hi => h i (by omega))
    have h2 := h n (by omega)
    omega
theorem fm_su_mono {f : Nat → Nat} {m : Nat} : ∀ n, m ≤ n → fm_su f m ≤ fm_su f n := by
  intro n
  induction n with
  | zero => intro h; rw [show m = 0 by omega]; exact Nat.le_refl _
  | succ n ih =>
    intro h
    by_cases e : m = n + 1
    · rw [e]; exact Nat.le_refl _
    · have := ih (by omega)
      show fm_su f m ≤ fm_su f n + f n
      omega
theorem fm_su_top {f : Nat → Nat} {m : Nat} : ∀ n, m ≤ n → (∀ i, m ≤ i → i < n → f i = 0) → fm_su f n = fm_su f m := by
  intro n
  induction n with
  | zero => intro h _; rw [show m = 0 by omega]
  | succ n ih =>
    intro h hz
    by_cases e : m = n + 1
    · rw [e]
    · show fm_su f n + f n = _
      rw [ih (by omega) (fun i h1 h2 => hz i h1 (by omega)), hz n (by omega) (by omega)]
      rfl
theorem fm_su_pos {f : Nat → Nat} : ∀ n, 0 < fm_su f n → ∃ i, i < n ∧ 0 < f i := by
  intro n
  induction n with
  | zero => intro h; exact absurd h (Nat.lt_irrefl _)
  | succ n ih =>
    intro h
    have h2 : 0 < fm_su f n + f n := h
    by_cases e : 0 < f n
    · exact ⟨n, by omega, e⟩
    · obtain ⟨i, hi, hp⟩ := ih (by omega)
      exact ⟨i, by omega, hp⟩
theorem fm_su_ins {g σ τ : Nat → Nat} {k a : Nat} (h1 : ∀ j, j < a → τ j = σ j) (h2 : τ a = k) (h3 : ∀ j, a < j → τ j = σ (j - 1)) : ∀ m, a ≤ m → fm_su (fun j => g (τ j)) (m + 1) = fm_su (fun j => g (σ j)) m + g k := by
  intro m
  induction m with
  | zero =>
    intro h
    have : a = 0 := by omega
    subst this
    show fm_su (fun j => g (τ j)) 0 + g (τ 0) = _
    rw [h2]; rfl
  | succ m ih =>
    intro h
    show fm_su (fun j => g (τ j)) (m + 1) + g (τ (m + 1)) = fm_su (fun j => g (σ j)) m + g (σ m) + g k
    by_cases e : a = m + 1
    · rw [fm_su_cong (f := fun j => g (τ j)) (g := fun j => g (σ j)) (m + 1) (fun i hi => by show g (τ i) = g (σ i); rw [h1 i (by omega)]), ← e, h2, e]
      rfl
    · rw [ih (by omega), h3 (m + 1) (by omega)]
      show _ + _ + g (σ m) = _
      omega
def fm_ho (J : List (Nat × Nat)) (i : Nat) : Nat := (fm_jj J i).1
def fm_du (J : List (Nat × Nat)) (i : Nat) : Nat := (fm_jj J i).2
/-- the first k jobs by their dues -/
def fm_srt (J : List (Nat × Nat)) (k : Nat) (σ : Nat → Nat) : Prop := (∀ j, j < k → σ j < k) ∧ (∀ i j, i < j → j < k → fm_du J (σ i) ≤ fm_du J (σ j)) ∧ ∀ g : Nat → Nat, fm_su (fun j => g (σ j)) k = fm_su g k
theorem fx_ins {J : List (Nat × Nat)} {k : Nat} {σ : Nat → Nat} {μ : fw_M} (wj : wJ J) (hJ : rJ (μ.1 28 3) (μ.1 29) (μ.1 30) J) (hk : k < J.length) (hs : ∀ j, j < k → σ j < k) (hσ : ∀ j, j < k → μ.1 31 j = nI (σ j)) (so : ∀ i j, i < j → j < k → fm_du J (σ i) ≤ fm_du J (σ j)) : fm_T (fw_wh (f_Jobs_sortByDue_28_L12 (nI k)) fw_N (nI k, μ)) (fun p => ∃ a, a ≤ k ∧ p.1 = nI a ∧ fm_F [31] μ p.2 ∧ (∀ j, j < a → p.2.1 31 j = nI (σ j)) ∧ (∀ j, a < j → j ≤ k → p.2.1 31 j = nI (σ (j - 1))) ∧ (∀ j, a ≤ j → j < k → fm_du J k < fm_du J (σ j)) ∧ (∀ j, j < a → fm_du J (σ j) ≤ fm_du J k)) := by
  have h8 := wj.1
  refine fm_wh (P := fun a s => a ≤ k ∧ s.1 = nI a ∧ fm_F [31] μ s.2 ∧ (∀ j, j < a → s.2.1 31 j = nI (σ j)) ∧ (∀ j, a < j → j ≤ k → s.2.1 31 j = nI (σ (j - 1))) ∧ (∀ j, a ≤ j → j < k → fm_du J k < fm_du J (σ j))) ?_ (i := k) ⟨Nat.le_refl _, rfl, fm_F.rf, hσ, fun j h1 h2 => absurd h1 (by omega), fun j h1 h2 => absurd h1 (by omega)⟩ (by omega)
  rintro a ⟨x, ν⟩ ⟨ha, h1, h2, h3, h4, h5⟩
  simp only at h1 h2 h3 h4 h5
  subst h1
  unfold f_Jobs_sortByDue_28_L12
  try dsimp only
  by_cases e : a = 0
  · subst e
    rw [if_pos (show nI 0 ≤ 0 by decide), fm_some, fm_Kr]
    exact ⟨0, ha, rfl, h2, h3, h4, h5, fun j hj => absurd hj (Nat.not_lt_zero _)⟩
  · obtain ⟨b, rfl⟩ : ∃ b, a = b + 1 := ⟨a - 1, by omega⟩
    have hb := hs b (by omega)
    have d1 : ν.1 30 (σ b) = nI (fm_du J (σ b)) := by rw [h2.at 30]; exact (hJ.2 _ (by omega)).2
    have d2 : ν.1 30 k = nI (fm_du J k) := by rw [h2.at 30]; exact (hJ.2 _ hk).2
    have l1 : fm_du J (σ b) ≤ 200 := (wj.2 _ (by omega)).2.2
    have l2 : fm_du J k ≤ 200 := (wj.2 _ hk).2.2
    rw [if_neg (nI_nle (by omega) (by omega)), nI_pred, fm_rd (by omega) (by omega), fm_bs, h3 b (by omega), fm_rd (by omega) (by omega), fm_bs, fm_rd (by omega) (by omega), fm_bs, d1, d2]
    by_cases q : fm_du J (σ b) ≤ fm_du J k
    · rw [if_pos (nI_le q (by omega)), fm_some, fm_Kr]
      refine ⟨b + 1, ha, rfl, h2, h3, h4, h5, fun j hj => ?_⟩
      by_cases e2 : j = b
      · rw [e2]; exact q
      · have := so j b (by omega) (by omega)
        omega
    · rw [if_neg (nI_ge (by omega) (by omega)), fm_bs, fm_si (by omega) (by omega), fm_bs, fm_nm, pk_m1, fm_some, fm_Kl]
      refine ⟨b, by omega, by omega, rfl, h2.wr, fun j hj => ?_, fun j g1 g2 => ?_, fun j g1 g2 => ?_⟩
      · simp only [fm_wr, show ¬ j = b + 1 by omega, and_false, if_false]
        exact h3 j (by omega)
      · by_cases e2 : j = b + 1
        · subst e2
          simp only [fm_wr, and_self, if_true]
          rfl
        · simp only [fm_wr, e2, and_false, if_false]
          exact h4 j (by omega) g2
      · by_cases e2 : j = b
        · rw [e2]; omega
        · exact h5 j (by omega) g2
theorem fx_sort {J : List (Nat × Nat)} {μ : fw_M} (wj : wJ J) (hJ : rJ (μ.1 28 3) (μ.1 29) (μ.1 30) J) : fm_T (f_Jobs_sortByDue_28 μ) (fun ν => fm_F [31] μ ν ∧ ∃ σ : Nat → Nat, fm_srt J J.length σ ∧ ∀ j, j < J.length → ν.1 31 j = nI (σ j)) := by
  have h8 := wj.1
  unfold f_Jobs_sortByDue_28
  rw [fm_bind]
  refine fm_up (P := fun k s => s.1 = nI k ∧ fm_F [31] μ s.2 ∧ ∃ σ : Nat → Nat, fm_srt J k σ ∧ ∀ j, j < k → s.2.1 31 j = nI (σ j)) J.length ?_ ?_ 0 (Nat.zero_le _) ⟨rfl, fm_F.rf, fun j => j, ⟨fun j hj => hj, fun i j h1 h2 => absurd h2 (Nat.not_lt_zero _), fun g => rfl⟩, fun j hj => absurd hj (Nat.not_lt_zero _)⟩ (by omega)
  · rintro k ⟨x, ν⟩ hk ⟨h1, h2, σ, ⟨s1, s2, s3⟩, h3⟩
    simp only at h1 h2 h3
    subst h1
    have hJ2 : rJ (ν.1 28 3) (ν.1 29) (ν.1 30) J := by rw [h2.at 28, h2.at 29, h2.at 30]; exact hJ
    unfold f_Jobs_sortByDue_28_L2
    try dsimp only
    rw [hJ2.1, if_neg (nI_ge hk (by omega)), fm_bind]
    refine (fx_ins wj hJ2 hk s1 h3 s2).mono ?_
    rintro ⟨x, ξ⟩ ⟨a, ha, e, f1, f2, f3, f4, f5⟩
    simp only at e f1 f2 f3 f4 f5
    subst e
    rw [fm_si (by omega) (by omega), fm_bs, fm_nm, fm_some, fm_Kl]
    refine ⟨nI_1 k, (h2.tr f1).wr, fun j => if j < a then σ j else if j = a then k else σ (j - 1), ⟨fun j hj => ?_, fun i j q1 q2 => ?_, fun g => ?_⟩, fun j hj => ?_⟩
    · simp only
      by_cases c1 : j < a
      · rw [if_pos c1]; have := s1 j (by omega); omega
      · rw [if_neg c1]
        by_cases c2 : j = a
        · rw [if_pos c2]; omega
        · rw [if_neg c2]; have := s1 (j - 1) (by omega); omega
    · simp only
      by_cases c1 : j < a
      · rw [if_pos c1, if_pos (show i < a by omega)]
        exact s2 i j q1 (by omega)
      · rw [if_neg c1]
        by_cases c2 : j = a
        · rw [if_pos c2, if_pos (show i < a by omega)]
          exact f5 i (by omega)
        · rw [if_neg c2]
          by_cases c3 : i < a
          · rw [if_pos c3]
            exact s2 i (j - 1) (by omega) (by omega)
          · rw [if_neg c3]
            by_cases c4 : i = a
            · rw [if_pos c4]
              exact Nat.le_of_lt (f4 (j - 1) (by omega) (by omega))
            · rw [if_neg c4]
              exact s2 (i - 1) (j - 1) (by omega) (by omega)
    · rw [fm_su_ins (g := g) (σ := σ) (τ := fun j => if j < a then σ j else if j = a then k else σ (j - 1)) (k := k) (a := a) (fun j hj => if_pos hj) (by show (if a < a then σ a else if a = a then k else σ (a - 1)) = k; rw [if_neg (by omega), if_pos rfl]) (fun j hj => by show (if j < a then σ j else if j = a then k else σ (j - 1)) = σ (j - 1); rw [if_neg (by omega), if_neg (by omega)]) k ha, s3]
      rfl
    · simp only
      by_cases c1 : j < a
      · rw [if_pos c1, fm_wr, if_neg (by omega)]
        exact f2 j c1
      · rw [if_neg c1]
        by_cases c2 : j = a
        · rw [if_pos c2, fm_wr, if_pos ⟨rfl, c2⟩]
        · rw [if_neg c2, fm_wr, if_neg (by omega)]
          exact f3 j (by omega) (by omega)
  · rintro ⟨x, ν⟩ ⟨h1, h2, σ, s, h3⟩
    simp only at h1 h2 h3
    subst h1
    unfold f_Jobs_sortByDue_28_L2
    try dsimp only
    rw [h2.at 28, hJ.1, if_pos (nI_le (Nat.le_refl _) (by omega)), fm_some, fm_Kr, fm_some]
    exact ⟨h2, σ, s, h3⟩
/-- all hours of a set that are due by the due of a -/
def fm_sum (J : List (Nat × Nat)) (S a : Nat) : Nat := fm_su (fun b => if S.testBit b = true ∧ fm_du J b ≤ fm_du J a then fm_ho J b else 0) J.length
def fm_tm (J : List (Nat × Nat)) (S : Nat) : Prop := ∀ a, a < J.length → S.testBit a = true → fm_sum J S a ≤ fm_du J a
def fm_cum (J : List (Nat × Nat)) (S : Nat) (σ : Nat → Nat) : Nat → Nat := fm_su (fun j => if S.testBit (σ j) = true then fm_ho J (σ j) else 0)
theorem fm_tm_iff {J : List (Nat × Nat)} {S : Nat} {σ : Nat → Nat} (h : fm_srt J J.length σ) : fm_tm J S ↔ ∀ i, i < J.length → S.testBit (σ i) = true → fm_cum J S σ (i + 1) ≤ fm_du J (σ i) := by
  obtain ⟨s1, s2, s3⟩ := h
  have e : ∀ a, fm_sum J S a = fm_su (fun j => if S.testBit (σ j) = true ∧ fm_du J (σ j) ≤ fm_du J a then fm_ho J (σ j) else 0) J.length := fun a => (s3 (fun b => if S.testBit b = true ∧ fm_du J b ≤ fm_du J a then fm_ho J b else 0)).symm
  constructor
  · intro ht i hi hS
    refine Nat.le_trans ?_ (ht (σ i) (s1 i hi) hS)
    rw [e]
    refine Nat.le_trans (fm_su_le (g := fun j => if S.testBit (σ j) = true ∧ fm_du J (σ j) ≤ fm_du J (σ i) then fm_ho J (σ j) else 0) (i + 1) (fun j hj => ?_)) (fm_su_mono _ (by omega))
    by_cases q : S.testBit (σ j) = true
    · have : fm_du J (σ j) ≤ fm_du J (σ i) := by
        by_cases e2 : j = i
        · rw [e2]; exact Nat.le_refl _
        · exact s2 j i (by omega) hi
      rw [if_pos q, if_pos ⟨q, this⟩]
      exact Nat.le_refl _
    · rw [if_neg q]; exact Nat.zero_le _
  · intro ht a ha hS
    have ex : ∃ j, j < J.length ∧ 0 < (if σ j = a then 1 else 0) := by
      have q := s3 (fun b => if b = a then 1 else 0)
      apply fm_su_pos
      rw [q]
      have : fm_su (fun b => if b = a then 1 else 0) (a + 1) ≤ fm_su (fun b => if b = a then 1 else 0) J.length := fm_su_mono _ (by omega)
      have h2 : fm_su (fun b => if b = a then 1 else 0) (a + 1) = fm_su (fun b => if b = a then 1 else 0) a + 1 := by
        show fm_su _ a + (if a = a then 1 else 0) = _
        rw [if_pos rfl]
      omega
    obtain ⟨j0, hj0, hp⟩ := ex
    have hj1 : σ j0 = a := by
      by_cases q : σ j0 = a
      · exact q
      · rw [if_neg q] at hp; exact absurd hp (Nat.lt_irrefl _)
    have last : ∀ m, m ≤ J.length → j0 < m → ∃ i, i < m ∧ S.testBit (σ i) = true ∧ fm_du J (σ i) ≤ fm_du J a ∧ ∀ j, i < j → j < m → ¬ (S.testBit (σ j) = true ∧ fm_du J (σ j) ≤ fm_du J a) := by
      intro m
      induction m with
      | zero => intro _ h; exact absurd h (Nat.not_lt_zero _)
      | succ m ih =>
        intro hm hj
        by_cases q : S.testBit (σ m) = true ∧ fm_du J (σ m) ≤ fm_du J a
        · exact ⟨m, by omega, q.1, q.2, fun j h1 h2 => absurd h1 (by omega)⟩
        · have hne : j0 ≠ m := fun e2 => q ⟨by rw [← e2, hj1]; exact hS, by rw [← e2, hj1]; exact Nat.le_refl _⟩
          obtain ⟨i, i1, i2, i3, i4⟩ := ih (by omega) (by omega)
          refine ⟨i, by omega, i2, i3, fun j h1 h2 => ?_⟩
          by_cases e2 : j = m
          · rw [e2]; exact q
          · exact i4 j h1 (by omega)
    obtain ⟨i, i1, i2, i3, i4⟩ := last J.length (Nat.le_refl _) hj0
    refine Nat.le_trans ?_ (Nat.le_trans (ht i i1 i2) i3)
    rw [e, fm_su_top (m := i + 1) J.length (by omega) (fun j h1 h2 => if_neg (i4 j (by omega) h2))]
    refine fm_su_le _ (fun j hj => ?_)
    by_cases q : S.testBit (σ j) = true
    · rw [if_pos q]
      split
      · exact Nat.le_refl _
      · exact Nat.zero_le _
    · rw [if_neg q, if_neg (fun z => q z.1)]
      exact Nat.le_refl _
theorem fx_intime {J : List (Nat × Nat)} {S : Nat} {σ : Nat → Nat} {μ : fw_M} (wj : wJ J) (hJ : rJ (μ.1 28 3) (μ.1 29) (μ.1 30) J) (hs : fm_srt J J.length σ) (hσ : ∀ j, j < J.length → μ.1 31 j = nI (σ j)) (hS : S < 1024) : fm_T (f_Jobs_isInTime_28 (nI S) μ) (fun r => (r = 1 ∧ fm_tm J S) ∨ (r = 0 ∧ ¬ fm_tm J S)) := by
  have h8 := wj.1
  rw [fm_tm_iff hs]
  obtain ⟨s1, s2, s3⟩ := hs
  have cl : ∀ i, i ≤ J.length → fm_cum J S σ i ≤ 24 * i := by
    intro i
    induction i with
    | zero => intro _; exact Nat.le_refl _
    | succ i ih =>
      intro hi
      have := ih (by omega)
      have := (wj.2 (σ i) (s1 i (by omega))).1.2
      show fm_cum J S σ i + (if S.testBit (σ i) = true then fm_ho J (σ i) else 0) ≤ _
      have e : fm_ho J (σ i) ≤ 24 := this
      split <;> omega
  unfold f_Jobs_isInTime_28
  rw [fm_bind]
  refine fm_up (P := fun i s => s = (nI (fm_cum J S σ i), nI i) ∧ ∀ k, k < i → S.testBit (σ k) = true → fm_cum J S σ (k + 1) ≤ fm_du J (σ k)) J.length ?_ ?_ 0 (Nat.zero_le _) ⟨rfl, fun k hk => absurd hk (Nat.not_lt_zero _)⟩ (by omega)
  · rintro i _ hi ⟨rfl, hk⟩
    have a1 := s1 i hi
    have a2 : μ.1 29 (σ i) = nI (fm_ho J (σ i)) := (hJ.2 _ a1).1
    have a3 : μ.1 30 (σ i) = nI (fm_du J (σ i)) := (hJ.2 _ a1).2
    have a4 : fm_ho J (σ i) ≤ 24 := (wj.2 _ a1).1.2
    have a5 : fm_du J (σ i) ≤ 200 := (wj.2 _ a1).2.2
    have a6 := cl i (by omega)
    unfold f_Jobs_isInTime_28_L4
    try dsimp only
    rw [hJ.1, if_neg (nI_ge hi (by omega)), fm_rd (by omega) (by omega), fm_bs, hσ i hi, fm_inSet (by omega) (by omega), fm_bs]
    by_cases q : S.testBit (σ i) = true
    · have ec : fm_cum J S σ (i + 1) = fm_cum J S σ i + fm_ho J (σ i) := by
        show fm_cum J S σ i + (if S.testBit (σ i) = true then fm_ho J (σ i) else 0) = _
        rw [if_pos q]
      rw [if_pos q, if_neg fm_n10, fm_rd (by omega) (by omega), fm_bs, fm_nmE, fm_rd (by omega) (by omega), fm_bs, a2, a3, nI_add, ← ec]
      by_cases g : fm_cum J S σ (i + 1) ≤ fm_du J (σ i)
      · rw [if_pos (nI_le g (by omega)), fm_nm, fm_some, fm_Kl, nI_1]
        refine ⟨rfl, fun k h1 h2 => ?_⟩
        by_cases e : k = i
        · rw [e]; exact g
        · exact hk k (by omega) h2
      · rw [if_neg (nI_ge (by omega) (by omega)), fm_some, fm_Kr, fm_some]
        exact Or.inr ⟨rfl, fun z => g (z i hi q)⟩
    · have ec : fm_cum J S σ (i + 1) = fm_cum J S σ i := by
        show fm_cum J S σ i + (if S.testBit (σ i) = true then fm_ho J (σ i) else 0) = _
        rw [if_neg q]; rfl
      rw [if_neg q, if_pos rfl, fm_nm, fm_some, fm_Kl, nI_1, ec]
      refine ⟨rfl, fun k h1 h2 => ?_⟩
      by_cases e : k = i
      · rw [e] at h2; exact absurd h2 q
      · exact hk k (by omega) h2
  · rintro _ ⟨rfl, hk⟩
    unfold f_Jobs_isInTime_28_L4
    try dsimp only
    rw [hJ.1, if_pos (nI_le (Nat.le_refl _) (by omega)), fm_some, fm_Kr, fm_some]
    exact Or.inl ⟨rfl, hk⟩
theorem fy_sum {J : List (Nat × Nat)} {S a : Nat} {μ : fw_M} (wj : wJ J) (hJ : rJ (μ.1 0 11) (μ.1 8) (μ.1 9) J) (ha : a < J.length) (hS : S < 1024) : fw_wh (f_M_isDone_L18 (nI S) μ (nI a)) fw_N (0, 0) = some (nI (fm_sum J S a)) := by
  have h8 := wj.1
  apply fm_eq
  refine fm_up (P := fun i s => s = (nI (fm_su (fun b => if S.testBit b = true ∧ fm_du J b ≤ fm_du J a then fm_ho J b else 0) i), nI i)) J.length ?_ ?_ 0 (Nat.zero_le _) rfl (by omega)
  · rintro i _ hi rfl
    have a2 : μ.1 8 i = nI (fm_ho J i) := (hJ.2 _ hi).1
    have a3 : μ.1 9 i = nI (fm_du J i) := (hJ.2 _ hi).2
    have a4 : μ.1 9 a = nI (fm_du J a) := (hJ.2 _ ha).2
    have a5 : fm_du J i ≤ 200 := (wj.2 _ hi).2.2
    have a6 : fm_du J a ≤ 200 := (wj.2 _ ha).2.2
    unfold f_M_isDone_L18
    try dsimp only
    rw [hJ.1, if_neg (nI_ge hi (by omega))]
    show fm_T _ (fm_K (fun s1 => s1 = (nI (fm_su (fun b => if S.testBit b = true ∧ fm_du J b ≤ fm_du J a then fm_ho J b else 0) i + (if S.testBit i = true ∧ fm_du J i ≤ fm_du J a then fm_ho J i else 0)), nI (i + 1))) _)
    by_cases q : S.testBit i = true
    · rw [if_pos ((fm_bit1 (by omega) (by omega)).mpr q), fm_rd (by omega) (by omega), fm_bs, fm_rd (by omega) (by omega), fm_bs, a3, a4]
      by_cases g : fm_du J i ≤ fm_du J a
      · rw [if_neg (nI_nlt g (by omega)), if_pos ⟨q, g⟩, fm_rd (by omega) (by omega), fm_bs, fm_bs, a2, fm_nm, fm_nm, fm_some, fm_Kl, nI_add, nI_1]
      · rw [if_pos (nI_lt (by omega) (by omega)), if_neg (fun z => g z.2), fm_bs, fm_nm, fm_nm, fm_some, fm_Kl, show (0 : Int32) = nI 0 from rfl, nI_add, nI_1]
    · rw [if_neg (fun z => q ((fm_bit1 (by omega) (by omega)).mp z)), if_neg (fun z => q z.1), fm_bs, fm_nm, fm_nm, fm_some, fm_Kl, show (0 : Int32) = nI 0 from rfl, nI_add, nI_1]
  · rintro _ rfl
    unfold f_M_isDone_L18
    try dsimp only
    rw [hJ.1, if_pos (nI_le (Nat.le_refl _) (by omega)), fm_some, fm_Kr]
    rfl
theorem fm_su_b {g : Nat → Nat} {b : Nat} : ∀ n, (∀ i, i < n → g i ≤ b) → fm_su g n ≤ b * n := by
  intro n
  induction n with
  | zero => intro _; exact Nat.zero_le _
  | succ n ih =>
    intro h
    have h1 := ih (fun i hi => h i (by omega))
    have h2 := h n (by omega)
    show fm_su g n + g n ≤ b * (n + 1)
    rw [Nat.mul_succ]
    omega
theorem fy_intime {J : List (Nat × Nat)} {S : Nat} {μ : fw_M} (wj : wJ J) (hJ : rJ (μ.1 0 11) (μ.1 8) (μ.1 9) J) (hS : S < 1024) : fm_T (f_M_isDone (nI S) μ) (fun r => (r = 1 ∧ fm_tm J S) ∨ (r = 0 ∧ ¬ fm_tm J S)) := by
  have h8 := wj.1
  unfold f_M_isDone
  rw [fm_bind]
  have sb : ∀ a, fm_sum J S a ≤ 24 * J.length := fun a => fm_su_b _ (fun i hi => by
    have : fm_ho J i ≤ 24 := (wj.2 _ hi).1.2
    split <;> omega)
  refine fm_up (P := fun i s => s.2 = nI i ∧ ((s.1 = 1 ∧ ∀ a, a < i → S.testBit a = true → fm_sum J S a ≤ fm_du J a) ∨ (s.1 = 0 ∧ ¬ ∀ a, a < i → S.testBit a = true → fm_sum J S a ≤ fm_du J a))) J.length ?_ ?_ 0 (Nat.zero_le _) ⟨rfl, Or.inl ⟨rfl, fun a ha => absurd ha (Nat.not_lt_zero _)⟩⟩ (by omega)
  · rintro i ⟨r, x⟩ hi ⟨h1, h2⟩
    simp only at h1 h2
    subst h1
    have a3 : μ.1 9 i = nI (fm_du J i) := (hJ.2 _ hi).2
    have a5 : fm_du J i ≤ 200 := (wj.2 _ hi).2.2
    have a6 := sb i
    unfold f_M_isDone_L4
    try dsimp only
    rw [hJ.1, if_neg (nI_ge hi (by omega)), fy_sum wj hJ hi hS, fm_bs]
    rcases h2 with ⟨rfl, h2⟩ | ⟨rfl, h2⟩
    · rw [if_neg fm_n10]
      by_cases q : S.testBit i = true
      · rw [if_neg (fun z => by have := (fm_bit0 (show i < 32 by omega) (show S < 2147483648 by omega)).mp z; rw [q] at this; cases this), fm_rd (by omega) (by omega), fm_bs, a3]
        by_cases g : fm_sum J S i ≤ fm_du J i
        · rw [if_neg (nI_nlt g (by omega)), fm_bs, fm_nm, fm_some, fm_Kl]
          refine ⟨nI_1 i, Or.inl ⟨rfl, fun a q1 q2 => ?_⟩⟩
          by_cases e : a = i
          · rw [e]; exact g
          · exact h2 a (by omega) q2
        · rw [if_pos (nI_lt (by omega) (by omega)), fm_bs, fm_nm, fm_some, fm_Kl]
          exact ⟨nI_1 i, Or.inr ⟨rfl, fun z => g (z i (by omega) q)⟩⟩
      · rw [if_pos ((fm_bit0 (show i < 32 by omega) (show S < 2147483648 by omega)).mpr (by simpa using q)), fm_bs, fm_nm, fm_some, fm_Kl]
        refine ⟨nI_1 i, Or.inl ⟨rfl, fun a q1 q2 => ?_⟩⟩
        by_cases e : a = i
        · rw [e] at q2; exact absurd q2 q
        · exact h2 a (by omega) q2
    · rw [if_pos rfl, fm_bs, fm_nm, fm_some, fm_Kl]
      exact ⟨nI_1 i, Or.inr ⟨rfl, fun z => h2 (fun a q1 q2 => z a (by omega) q2)⟩⟩
  · rintro ⟨r, x⟩ ⟨h1, h2⟩
    simp only at h1 h2
    subst h1
    unfold f_M_isDone_L4
    try dsimp only
    rw [hJ.1, if_pos (nI_le (Nat.le_refl _) (by omega)), fm_some, fm_Kr]
    rcases h2 with ⟨rfl, h2⟩ | ⟨rfl, h2⟩
    · rw [fm_bz1, fm_bs, fm_some]; exact Or.inl ⟨rfl, h2⟩
    · rw [fm_bz0, fm_bs, fm_some]; exact Or.inr ⟨rfl, h2⟩
noncomputable def fm_bst (J : List (Nat × Nat)) : Nat → Nat
  | 0 => 0
  | s + 1 => @ite _ (fm_pc (fm_bst J s) < fm_pc s ∧ fm_tm J s) (Classical.propDecidable _) s (fm_bst J s)
theorem fm_bst1 {J : List (Nat × Nat)} {s : Nat} (h : fm_pc (fm_bst J s) < fm_pc s ∧ fm_tm J s) : fm_bst J (s + 1) = s := by
  show @ite _ (fm_pc (fm_bst J s) < fm_pc s ∧ fm_tm J s) (Classical.propDecidable _) s (fm_bst J s) = s
  exact if_pos h
theorem fm_bst0 {J : List (Nat × Nat)} {s : Nat} (h : ¬ (fm_pc (fm_bst J s) < fm_pc s ∧ fm_tm J s)) : fm_bst J (s + 1) = fm_bst J s := by
  show @ite _ (fm_pc (fm_bst J s) < fm_pc s ∧ fm_tm J s) (Classical.propDecidable _) s (fm_bst J s) = fm_bst J s
  exact if_neg h
theorem fm_bst_lt (J : List (Nat × Nat)) : ∀ s, 1 ≤ s → fm_bst J s < s := by
  intro s
  induction s with
  | zero => intro h; exact absurd h (by omega)
  | succ s ih =>
    intro _
    by_cases h : fm_pc (fm_bst J s) < fm_pc s ∧ fm_tm J s
    · rw [fm_bst1 h]; omega
    · rw [fm_bst0 h]
      by_cases e : s = 0
      · subst e; show 0 < 1; omega
      · have := ih (by omega); omega
theorem fm_pow8 {k n : Nat} (h : k ≤ n) : 2 ^ k ≤ 2 ^ n := Nat.pow_le_pow_right (by omega) h
theorem fo_done : fw_O_done fm_I := by
  intro n μx μm hn hI
  obtain ⟨⟨C, wc, xs, ms, kp⟩, im, tp, sh, rk⟩ := hI
  have wj := wc.2.2.2.2.2
  have hJx : rJ (μx.1 28 3) (μx.1 29) (μx.1 30) C.2.2.2.2.2 := xs.2.2.2.2.2
  have hJm := ms.2.2.2.2.2
  have h8 := wj.1
  have p8 : 2 ^ C.2.2.2.2.2.length ≤ 256 := fm_pow8 (n := 8) h8
  have p1 : 1 ≤ 2 ^ C.2.2.2.2.2.length := Nat.one_le_two_pow
  obtain ⟨ν, e1, F, σ, hs, hσ⟩ := fx_sort wj hJx
  have hJ2 : rJ (ν.1 28 3) (ν.1 29) (ν.1 30) C.2.2.2.2.2 := cJ hJx F
  have hx : fw_wh (f_Jobs_mostInTime_28_L8 ν) fw_N (0, 1) = some (nI (fm_bst C.2.2.2.2.2 (2 ^ C.2.2.2.2.2.length))) := by
    apply fm_eq
    refine fm_up (P := fun s st => 1 ≤ s ∧ st = (nI (fm_bst C.2.2.2.2.2 s), nI s)) (2 ^ C.2.2.2.2.2.length) ?_ ?_ 1 p1 ⟨Nat.le_refl _, by
      have := fm_bst_lt C.2.2.2.2.2 1 (Nat.le_refl _)
      rw [show fm_bst C.2.2.2.2.2 1 = 0 by omega]; rfl⟩ (by omega)
    · rintro s _ hs2 ⟨h1, rfl⟩
      have hb := fm_bst_lt C.2.2.2.2.2 s h1
      have q1 := fm_pc10 s
      have q2 := fm_pc10 (fm_bst C.2.2.2.2.2 s)
      unfold f_Jobs_mostInTime_28_L8
      try dsimp only
      rw [hJ2.1, fm_one (by omega), if_neg (nI_ge hs2 (by omega)), fm_pc0 s (by omega), fm_bs, fm_pc0 _ (by omega), fm_bs]
      obtain ⟨r, er, hr⟩ := fx_intime (S := s) wj hJ2 hs hσ (by omega)
      by_cases g : fm_pc s ≤ fm_pc (fm_bst C.2.2.2.2.2 s)
      · rw [if_pos (nI_le g (by omega)), fm_bs, fm_nm, fm_some, fm_Kl, nI_1, fm_bst0 (fun z => by omega)]
        exact ⟨by omega, rfl⟩
      · rw [if_neg (nI_ge (by omega) (by omega)), er, fm_bs]
        rcases hr with ⟨rfl, hr⟩ | ⟨rfl, hr⟩
        · rw [if_neg fm_n10, fm_bs, fm_nm, fm_some, fm_Kl, nI_1, fm_bst1 ⟨by omega, hr⟩]
          exact ⟨by omega, rfl⟩
        · rw [if_pos rfl, fm_bs, fm_nm, fm_some, fm_Kl, nI_1, fm_bst0 (fun z => hr z.2)]
          exact ⟨by omega, rfl⟩
    · rintro _ ⟨h1, rfl⟩
      unfold f_Jobs_mostInTime_28_L8
      try dsimp only
      rw [hJ2.1, fm_one (by omega), if_pos (nI_le (Nat.le_refl _) (by omega)), fm_some, fm_Kr]
  have hm : fw_wh (f_M_done_L4 μm) fw_N (0, 1) = some (nI (fm_bst C.2.2.2.2.2 (2 ^ C.2.2.2.2.2.length))) := by
    apply fm_eq
    refine fm_up (P := fun s st => 1 ≤ s ∧ st = (nI (fm_bst C.2.2.2.2.2 s), nI s)) (2 ^ C.2.2.2.2.2.length) ?_ ?_ 1 p1 ⟨Nat.le_refl _, by
      have := fm_bst_lt C.2.2.2.2.2 1 (Nat.le_refl _)
      rw [show fm_bst C.2.2.2.2.2 1 = 0 by omega]; rfl⟩ (by omega)
    · rintro s _ hs2 ⟨h1, rfl⟩
      have hb := fm_bst_lt C.2.2.2.2.2 s h1
      have q1 := fm_pc10 s
      have q2 := fm_pc10 (fm_bst C.2.2.2.2.2 s)
      unfold f_M_done_L4
      try dsimp only
      rw [hJm.1, fm_one (by omega), if_neg (nI_ge hs2 (by omega)), fy_size (by omega), fm_bs, fy_size (by omega), fm_bs]
      obtain ⟨r, er, hr⟩ := fy_intime (S := s) wj hJm (by omega)
      by_cases g : fm_pc s ≤ fm_pc (fm_bst C.2.2.2.2.2 s)
      · rw [if_pos (nI_le g (by omega)), fm_bs, fm_nm, fm_some, fm_Kl, nI_1, fm_bst0 (fun z => by omega)]
        exact ⟨by omega, rfl⟩
      · rw [if_neg (nI_ge (by omega) (by omega)), er, fm_bs]
        rcases hr with ⟨rfl, hr⟩ | ⟨rfl, hr⟩
        · rw [if_neg fm_n10, fm_bs, fm_nm, fm_some, fm_Kl, nI_1, fm_bst1 ⟨by omega, hr⟩]
          exact ⟨by omega, rfl⟩
        · rw [if_pos rfl, fm_bs, fm_nm, fm_some, fm_Kl, nI_1, fm_bst0 (fun z => hr z.2)]
          exact ⟨by omega, rfl⟩
    · rintro _ ⟨h1, rfl⟩
      unfold f_M_done_L4
      try dsimp only
      rw [hJm.1, fm_one (by omega), if_pos (nI_le (Nat.le_refl _) (by omega)), fm_some, fm_Kr]
  unfold f_X_done f_M_done f_Jobs_mostInTime_28
  rw [e1, fm_bs, hx, fm_bs, fm_bs, hm, fm_bs]
  refine ⟨_, _, rfl, rfl, ?_⟩
  have G : fm_F [] μm μm := fm_F.rf
  exact fm_mk wc ⟨cT xs.1 F, cL xs.2.1 F, cW xs.2.2.1 F, cR xs.2.2.2.1 F, cX xs.2.2.2.2.1 F wc.2.2.2.2.1.1 F.c1, hJ2⟩ ms (kp.cong (F.at 81) (F.at 82)) im tp sh (rk.up (by omega)) F G rfl rfl
