/-! WHAT A PULL CAN, FEWEST, THE PLAN: as numbers -/
def fp_bs (L : fm_Li) (p : Nat) : Prop := p + 1 < L.1.length ∧ L.2.testBit p = false
def fp_pr (T : List fm_Ty) (L : fm_Li) (t p : Nat) : Prop := ((fm_tt T t).1 ≠ 2 ∧ (fm_tt T t).2.1 = fm_ll L p) ∨ ((fm_tt T t).1 = 1 ∧ (fm_tt T t).2.2 = fm_ll L p)
def fp_jn (T : List fm_Ty) (L : fm_Li) (t p : Nat) : Prop := (fm_tt T t).1 = 2 ∧ (fm_tt T t).2.1 = fm_ll L p ∧ (fm_tt T t).2.2 = fm_ll L (p + 1)
def fp_cl (L : fm_Li) (w s p : Nat) : Prop := w = 1 ∧ fp_bs L p ∧ s.testBit (p + 1) = true
def fp_al (T : List fm_Ty) (L : fm_Li) (w s t p : Nat) : Prop := fp_pr T L t p ∧ ¬ fp_cl L w s p
def fp_jo (T : List fm_Ty) (L : fm_Li) (w s t p : Nat) : Prop := fp_jn T L t p ∧ fp_bs L p ∧ s.testBit (p + 1) = true ∧ ¬ fp_cl L w s (p + 1)
/-- the last k of n places can be printed by free types -/
def fp_w (al jo : Nat → Nat → Prop) (n m s : Nat) : Nat → (Nat → Prop) → Prop
  | 0, _ => True
  | 1, F => s.testBit (n - 1) = false ∨ (s.testBit (n - 1) = true ∧ ∃ t, t < m ∧ F t ∧ al t (n - 1))
  | k + 2, F => (s.testBit (n - (k + 2)) = false ∧ fp_w al jo n m s (k + 1) F) ∨ (s.testBit (n - (k + 2)) = true ∧ ∃ t, t < m ∧ F t ∧ ((al t (n - (k + 2)) ∧ fp_w al jo n m s (k + 1) (fun x => F x ∧ x ≠ t)) ∨ (jo t (n - (k + 2)) ∧ fp_w al jo n m s k (fun x => F x ∧ x ≠ t))))
/-- the places from p on can be printed by free types -/
def fp_P (T : List fm_Ty) (L : fm_Li) (w s p : Nat) (F : Nat → Prop) : Prop := fp_w (fp_al T L w s) (fp_jo T L w s) L.1.length T.length s (L.1.length - p) F
def fp_can (T : List fm_Ty) (L : fm_Li) (w s : Nat) : Prop := fp_P T L w s 0 (fun _ => True)
/-- k pulls ink a set -/
def fp_part (can : Nat → Prop) : Nat → Nat → Prop
  | 0, s => s = 0
  | k + 1, s => ∃ p, p ≠ 0 ∧ p &&& s = p ∧ can p ∧ fp_part can k (s ^^^ p)
def fp_few (can : Nat → Prop) (s f : Nat) : Prop := (f < 99 ∧ fp_part can f s ∧ ∀ k, k < f → ¬ fp_part can k s) ∨ (f = 99 ∧ ∀ k, ¬ fp_part can k s)
def fp_ch (can : Nat → Prop) (s p k : Nat) : Prop := p ≠ 0 ∧ p &&& s = p ∧ can p ∧ fp_few can (s ^^^ p) k
def fp_plan (can : Nat → Prop) : List Nat → Nat → Prop
  | [], s => s = 0
  | p :: P, s => fp_ch can s p P.length ∧ (∀ q, q < p → ¬ fp_ch can s q P.length) ∧ fp_plan can P (s ^^^ p)
def fp_ans (f : Nat) : Int32 := if f < 99 then nI f else -4
def fp_all (L : fm_Li) : Nat := 2 ^ L.1.length - 1
theorem fp_few_un {can : Nat → Prop} {s f g : Nat} (h : fp_few can s f) (h2 : fp_few can s g) : f = g := by
  rcases h with ⟨h1, h3, h4⟩ | ⟨h1, h3⟩
  · rcases h2 with ⟨k1, k3, k4⟩ | ⟨k1, k3⟩
    · by_cases a : f < g
      · exact absurd h3 (k4 f a)
      · by_cases b : g < f
        · exact absurd k3 (h4 g b)
        · omega
    · exact absurd h3 (k3 f)
  · rcases h2 with ⟨k1, k3, k4⟩ | ⟨k1, k3⟩
    · exact absurd k3 (h3 g)
    · omega
theorem fp_plan_un {can : Nat → Prop} : ∀ {P Q : List Nat} {s : Nat}, P.length = Q.length → fp_plan can P s → fp_plan can Q s → P = Q := by
  intro P
  induction P with
  | nil =>
    intro Q s h _ _
    cases Q with
    | nil => rfl
    | cons q Q => simp at h
  | cons p P ih =>
    intro Q s h h1 h2
    cases Q with
    | nil => simp at h
    | cons q Q =>
      have hl : P.length = Q.length := by simpa using h
      obtain ⟨a1, a2, a3⟩ := h1
      obtain ⟨b1, b2, b3⟩ := h2
      have e : p = q := by
        by_cases c : p < q
        · exact absurd (hl ▸ a1) (b2 p c)
        · by_cases d : q < p
          · exact absurd (hl ▸ b1) (a2 q d)
          · omega
      subst e
      rw [ih hl a3 b3]
/-- what the class keeps of FEWEST and THE PLAN -/
def fm_kept (μx : fw_M) (C : fm_C) : Prop :=
  (∀ k, k < C.2.2.2.2.1.length → μx.1 81 k = 0 ∨ ∃ f, fp_few (fp_can C.1 (fm_xx C.2.2.2.2.1 k).2 (C.2.2.2.1 0)) (fp_all (fm_xx C.2.2.2.2.1 k).2) f ∧ μx.1 81 k = fp_ans f) ∧
  (μx.1 81 8 = 0 ∨ ∃ f, fp_few (fp_can C.1 C.2.1 (C.2.2.2.1 0)) (fp_all C.2.1) f ∧ μx.1 81 8 = fp_ans f ∧ (f < 99 → ∃ P : List Nat, P.length = f ∧ fp_plan (fp_can C.1 C.2.1 (C.2.2.2.1 0)) P (fp_all C.2.1) ∧ ∀ i, i < f → μx.1 82 i = nI (P.getD i 0)))
def fm_ima (μx μm : fw_M) : Prop := (μx.1 0 2 = 0 ∧ μm.1 0 32 = 0) ∨ (μx.1 0 2 = 1 ∧ μm.1 0 32 = 1 ∧ ∃ D : fm_C, wC D ∧ xS 32 μx D ∧ mS (fm_im (μm.1 23)) D)
def fm_tape (μx μm : fw_M) : Prop := ∃ t : List Nat, wB t ∧ rB (μx.1 63 1) (μx.1 64) t ∧ rB (μm.1 0 15) (μm.1 10) t
/-- THE INVARIANT -/
def fm_I (n : Nat) (μx μm : fw_M) : Prop := (∃ C : fm_C, wC C ∧ xS 1 μx C ∧ mS μm.1 C ∧ fm_kept μx C) ∧ fm_ima μx μm ∧ fm_tape μx μm ∧ (∀ s, s < 4 → rH μx μm s) ∧ rK n μm
theorem fm_ima.cong {μx μm νx νm : fw_M} (h : fm_ima μx μm) (h0 : νx.1 0 = μx.1 0) (h1 : ∀ k, 32 ≤ k → k ≤ 62 → νx.1 k = μx.1 k) (h2 : νm.1 0 32 = μm.1 0 32) (h3 : νm.1 23 = μm.1 23) : fm_ima νx νm := by
  rcases h with h | ⟨a, b, D, w, x, m⟩
  · left; rw [h0, h2]; exact h
  · right
    rw [h0, h2, h3]
    exact ⟨a, b, D, w, x.cong h1 w.2.2.2.2.1.1, m⟩
theorem fm_tape.cong {μx μm νx νm : fw_M} (h : fm_tape μx μm) (h1 : νx.1 63 1 = μx.1 63 1) (h2 : νx.1 64 = μx.1 64) (h3 : νm.1 0 15 = μm.1 0 15) (h4 : νm.1 10 = μm.1 10) : fm_tape νx νm := by
  obtain ⟨t, a, b, c⟩ := h
  exact ⟨t, a, by rw [h1, h2]; exact b, by rw [h3, h4]; exact c⟩
theorem fm_kept.cong {μx νx : fw_M} {C : fm_C} (h : fm_kept μx C) (h1 : νx.1 81 = μx.1 81) (h2 : νx.1 82 = μx.1 82) : fm_kept νx C := by
  unfold fm_kept at *
  rw [h1, h2]
  exact h
theorem fm_kept.none {μx : fw_M} {C : fm_C} (h : ∀ k, k < 9 → μx.1 81 k = 0) (hX : C.2.2.2.2.1.length ≤ 8) : fm_kept μx C := ⟨fun k hk => Or.inl (h k (by omega)), Or.inl (h 8 (by omega))⟩
theorem fm_sheets {μx μm νx νm : fw_M} (h : ∀ s, s < 4 → rH μx μm s) (h1 : ∀ k, 86 ≤ k → k ≤ 93 → νx.1 k = μx.1 k) (h3 : νm.1 24 = μm.1 24) (h4 : νm.1 25 = μm.1 25) (h5 : νm.1 26 = μm.1 26) : ∀ s, s < 4 → rH νx νm s := fun s hs => (h s hs).cong (h1 _ (by omega) (by omega)) (h1 _ (by omega) (by omega)) h3 h4 h5
/-- the reference's core, cell by cell -/
theorem mX.cong {g g2 : Nat → Nat → Int32} {X : List (Nat × fm_Li)} (h : mX g X) (h1 : g2 0 9 = g 0 9) (h2 : g2 7 = g 7) : mX g2 X := by
  unfold mX at *
  rw [h1, h2]
  exact h
theorem mS.cong {g g2 : Nat → Nat → Int32} {C : fm_C} (h : mS g C) (h0 : g2 0 0 = g 0 0) (h6 : g2 0 6 = g 0 6) (h8 : g2 0 8 = g 0 8) (h9 : g2 0 9 = g 0 9) (h11 : g2 0 11 = g 0 11) (hk : ∀ k, 1 ≤ k → k ≤ 9 → g2 k = g k) : mS g2 C := by
  unfold mS mX at *
  rw [h0, h6, h8, h9, h11, hk 1 (by omega) (by omega), hk 2 (by omega) (by omega), hk 3 (by omega) (by omega), hk 4 (by omega) (by omega), hk 5 (by omega) (by omega), hk 6 (by omega) (by omega), hk 7 (by omega) (by omega), hk 8 (by omega) (by omega), hk 9 (by omega) (by omega)]
  exact h
