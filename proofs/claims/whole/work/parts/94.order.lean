/-! order: the pull of a place -/
def po : List Nat → Nat → Nat
  | [], _ => 0
  | s :: P, p => if s.testBit p = true then 0 else po P p + 1
theorem po_ok {can : Nat → Prop} : ∀ (P : List Nat) (s : Nat), fp_plan can P s → ∀ p, s.testBit p = true → po P p < P.length ∧ ∀ j, j < P.length → ((P.getD j 0).testBit p = true ↔ j = po P p) := by
  intro P
  induction P with
  | nil =>
    intro s h p hp
    have h0 : s = 0 := h
    rw [h0] at hp
    simp at hp
  | cons q P ih =>
    intro s ⟨h1, h2, h3⟩ p hp
    show (if q.testBit p = true then 0 else po P p + 1) < P.length + 1 ∧ ∀ j, j < P.length + 1 → (((q :: P).getD j 0).testBit p = true ↔ j = if q.testBit p = true then 0 else po P p + 1)
    by_cases c : q.testBit p = true
    · rw [if_pos c]
      refine ⟨by omega, fun j hj => ?_⟩
      cases j with
      | zero => exact ⟨fun _ => rfl, fun _ => c⟩
      | succ j =>
        refine ⟨fun z => ?_, fun z => by omega⟩
        have z2 : (P.getD j 0).testBit p = true := z
        have hin := (fp_plan_at P _ h3 j (by omega)).2
        unfold fs_in at hin
        rw [← hin, Nat.testBit_and, Nat.testBit_xor, hp, c] at z2
        simp at z2
    · rw [if_neg c]
      have hx : (s ^^^ q).testBit p = true := by
        rw [Nat.testBit_xor, hp]
        simp at c
        rw [c]; rfl
      obtain ⟨a, b⟩ := ih _ h3 p hx
      refine ⟨by omega, fun j hj => ?_⟩
      cases j with
      | zero => exact ⟨fun z => absurd z c, fun z => by omega⟩
      | succ j =>
        have := b j (by omega)
        show ((P.getD j 0).testBit p = true ↔ j + 1 = po P p + 1)
        rw [this]
        omega
theorem po_all {can : Nat → Prop} {P : List Nat} {L : fm_Li} (h : fp_plan can P (fp_all L)) {p : Nat} (hp : p < L.1.length) : po P p < P.length ∧ ∀ j, j < P.length → ((P.getD j 0).testBit p = true ↔ j = po P p) := by
  refine po_ok P _ h p ?_
  unfold fp_all
  rw [Nat.testBit_two_pow_sub_one]
  exact decide_eq_true hp
/-! sums -/
theorem fm_su_swap {f : Nat → Nat → Nat} {m : Nat} : ∀ n, fm_su (fun i => fm_su (fun j => f i j) m) n = fm_su (fun j => fm_su (fun i => f i j) n) m := by
  intro n
  induction n with
  | zero =>
    show 0 = fm_su (fun j => 0) m
    exact (Nat.le_zero.mp (by have := fm_su_b (g := fun _ => 0) (b := 0) m (fun _ _ => Nat.le_refl _); omega)).symm
  | succ n ih =>
    show fm_su (fun i => fm_su (fun j => f i j) m) n + fm_su (fun j => f n j) m = fm_su (fun j => fm_su (fun i => f i j) n + f n j) m
    rw [fm_su_add, ih]
/-- the place p, pulled c pulls after q, comes into it -/
abbrev ov (lf w : Nat → Nat) (cr p q c : Nat) : Prop := lf p + c * cr < lf q + w q ∧ lf q < lf p + w p + c * cr
def oind (lf w pu : Nat → Nat) (cr N a b c p q : Nat) : Nat := if p < q ∧ pu q = a ∧ pu p = b ∧ a ≠ b ∧ (1 ≤ c ∧ c < N) ∧ ov lf w cr p q c then 1 else 0
def oW (lf w pu : Nat → Nat) (cr N n : Nat) (a b c : Nat) : Nat := fm_su (fun p => fm_su (fun q => oind lf w pu cr N a b c p q) n) n
def ocw (W : Nat → Nat → Nat → Nat) (σ : Nat → Nat) (j : Nat) : Nat := fm_su (fun i => W (σ i) (σ j) (j - i)) j
def oxc (W : Nat → Nat → Nat → Nat) (σ : Nat → Nat) (n : Nat) : Nat := fm_su (fun j => ocw W σ j) n
abbrev oco (lf ps : Nat → Nat) (cr p : Nat) : Nat := lf p + ps p * cr
def ocl (lf w ps : Nat → Nat) (cr p q : Nat) : Nat := if p < q ∧ ¬ oco lf ps cr q + w q ≤ oco lf ps cr p ∧ ¬ oco lf ps cr p + w p ≤ oco lf ps cr q then 1 else 0
def omc (lf w ps : Nat → Nat) (cr n : Nat) : Nat := fm_su (fun p => fm_su (fun q => ocl lf w ps cr p q) n) n
theorem o_pair {lf w pu ps σ : Nat → Nat} {cr N n p q : Nat} (hl : ∀ p q, p < q → q < n → lf p + w p ≤ lf q) (hp : p < n) (hq : q < n) (h1 : ∀ p, p < n → ps p < N) (h2 : ∀ p, p < n → ∀ j, j < N → (σ j = pu p ↔ j = ps p)) : fm_su (fun j => fm_su (fun i => if i < j then oind lf w pu cr N (σ i) (σ j) (j - i) p q else 0) N) N = ocl lf w ps cr p q := by
  have key : ∀ j, j < N → ∀ i, i < N → (if i < j then oind lf w pu cr N (σ i) (σ j) (j - i) p q else 0) = if i = ps q then (if j = ps p then ocl lf w ps cr p q else 0) else 0 := fun j hj i hi => by
    have e1 : pu q = σ i ↔ i = ps q := by rw [← h2 q hq i hi]; exact eq_comm
    have e2 : pu p = σ j ↔ j = ps p := by rw [← h2 p hp j hj]; exact eq_comm
    unfold oind ocl oco
    by_cases a : i = ps q
    · by_cases b : j = ps p
      · rw [if_pos a, if_pos b, ← a, ← b]
        by_cases pq : p < q
        · have hl2 := hl p q pq hq
          by_cases lt : i < j
          · have ne : σ i ≠ σ j := fun z => by
              have := (h2 q hq j hj).mp (by rw [← z]; exact (e1.mpr a).symm)
              omega
            have mm : j * cr = i * cr + (j - i) * cr := by rw [← Nat.add_mul]; congr 1; omega
            rw [if_pos lt]
            by_cases o : ov lf w cr p q (j - i)
            · rw [if_pos ⟨pq, e1.mpr a, e2.mpr b, ne, ⟨by omega, by omega⟩, o⟩, if_pos]
              obtain ⟨o1, o2⟩ := o
              exact ⟨pq, by omega, by omega⟩
            · rw [if_neg (fun z => o z.2.2.2.2.2), if_neg]
              rintro ⟨_, z1, z2⟩
              exact o ⟨by omega, by omega⟩
          · rw [if_neg lt, if_neg]
            rintro ⟨_, z1, z2⟩
            have mm : j * cr ≤ i * cr := Nat.mul_le_mul_right _ (by omega)
            omega
        · by_cases lt : i < j
          · rw [if_pos lt, if_neg (fun z => pq z.1), if_neg (fun z => pq z.1)]
          · rw [if_neg lt, if_neg (fun z => pq z.1)]
      · rw [if_pos a, if_neg b]
        by_cases lt : i < j
        · rw [if_pos lt, if_neg (fun z => b (e2.mp z.2.2.1))]
        · rw [if_neg lt]
    · rw [if_neg a]
      by_cases lt : i < j
      · rw [if_pos lt, if_neg (fun z => a (e1.mp z.2.1))]
      · rw [if_neg lt]
  rw [fm_su_cong N (g := fun j => if j = ps p then ocl lf w ps cr p q else 0) (fun j hj => ?_), fm_su_one N (h1 p hp)]
  show fm_su (fun i => if i < j then oind lf w pu cr N (σ i) (σ j) (j - i) p q else 0) N = _
  rw [fm_su_cong N (key j hj), fm_su_one N (h1 q hq)]
theorem o_cost {lf w pu ps σ : Nat → Nat} {cr N n : Nat} (hl : ∀ p q, p < q → q < n → lf p + w p ≤ lf q) (h1 : ∀ p, p < n → ps p < N) (h2 : ∀ p, p < n → ∀ j, j < N → (σ j = pu p ↔ j = ps p)) : oxc (oW lf w pu cr N n) σ N = omc lf w ps cr n := by
  unfold oxc omc
  have s1 : ∀ j, j < N → ocw (oW lf w pu cr N n) σ j = fm_su (fun p => fm_su (fun q => fm_su (fun i => if i < j then oind lf w pu cr N (σ i) (σ j) (j - i) p q else 0) N) n) n := fun j hj => by
    unfold ocw
    have t1 : fm_su (fun i => oW lf w pu cr N n (σ i) (σ j) (j - i)) j = fm_su (fun i => fm_su (fun p => fm_su (fun q => if i < j then oind lf w pu cr N (σ i) (σ j) (j - i) p q else 0) n) n) N := by
      rw [fm_su_top (f := fun i => fm_su (fun p => fm_su (fun q => if i < j then oind lf w pu cr N (σ i) (σ j) (j - i) p q else 0) n) n) (m := j) N (by omega) (fun i hi _ => ?_)]
      · refine fm_su_cong j (fun i hi => ?_)
        unfold oW
        refine fm_su_cong n (fun p _ => fm_su_cong n (fun q _ => ?_))
        rw [if_pos hi]
      · have := fm_su_b (g := fun p => fm_su (fun q => if i < j then oind lf w pu cr N (σ i) (σ j) (j - i) p q else 0) n) (b := 0) n (fun p _ => by
          have := fm_su_b (g := fun q => if i < j then oind lf w pu cr N (σ i) (σ j) (j - i) p q else 0) (b := 0) n (fun q _ => by rw [if_neg (by omega)]; exact Nat.le_refl _)
          omega)
        omega
    rw [t1, fm_su_swap]
    exact fm_su_cong n (fun p _ => fm_su_swap N)
  rw [fm_su_cong N s1, fm_su_swap]
  refine fm_su_cong n (fun p hp => ?_)
  rw [fm_su_swap]
  exact fm_su_cong n (fun q hq => o_pair hl hp hq h1 h2)
theorem oW_b {lf w pu : Nat → Nat} {cr N n a b c : Nat} (hn : n ≤ 10) : oW lf w pu cr N n a b c ≤ 100 := by
  have h1 : ∀ p, p < n → fm_su (fun q => oind lf w pu cr N a b c p q) n ≤ 10 := fun p _ => by
    have := fm_su_b (g := fun q => oind lf w pu cr N a b c p q) (b := 1) n (fun q _ => by unfold oind; split <;> omega)
    omega
  have := fm_su_b (g := fun p => fm_su (fun q => oind lf w pu cr N a b c p q) n) (b := 10) n h1
  unfold oW
  omega
theorem omc_b {lf w ps : Nat → Nat} {cr n : Nat} (hn : n ≤ 10) : omc lf w ps cr n ≤ 100 := by
  have h1 : ∀ p, p < n → fm_su (fun q => ocl lf w ps cr p q) n ≤ 10 := fun p _ => by
    have := fm_su_b (g := fun q => ocl lf w ps cr p q) (b := 1) n (fun q _ => by unfold ocl; split <;> omega)
    omega
  have := fm_su_b (g := fun p => fm_su (fun q => ocl lf w ps cr p q) n) (b := 10) n h1
  unfold omc
  omega
theorem oxc_b {W : Nat → Nat → Nat → Nat} {σ : Nat → Nat} {n : Nat} (hW : ∀ a b c, W a b c ≤ 100) (hn : n ≤ 6) : oxc W σ n ≤ 3600 := by
  have h1 : ∀ j, j < n → ocw W σ j ≤ 600 := fun j hj => by
    have := fm_su_b (g := fun i => W (σ i) (σ j) (j - i)) (b := 100) j (fun i _ => hW _ _ _)
    unfold ocw
    omega
  have := fm_su_b (g := fun j => ocw W σ j) (b := 600) n h1
  unfold oxc
  omega
theorem oxc_c {W : Nat → Nat → Nat → Nat} {σ τ : Nat → Nat} {n : Nat} (h : ∀ i, i < n → σ i = τ i) : oxc W σ n = oxc W τ n := by
  unfold oxc
  refine fm_su_cong n (fun j hj => ?_)
  unfold ocw
  refine fm_su_cong j (fun i hi => ?_)
  rw [h i (by omega), h j hj]
