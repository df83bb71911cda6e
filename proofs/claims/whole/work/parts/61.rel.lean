/-! THE STATE AS NUMBERS: types (kind, letter, more), a line (letters, gaps as bits), widths, rules, texts (sense, line), jobs (hours, due) -/
abbrev fm_Ty : Type := Nat × Nat × Nat
abbrev fm_Li : Type := List Nat × Nat
abbrev fm_C : Type := List fm_Ty × fm_Li × (Nat → Nat) × (Nat → Nat) × List (Nat × fm_Li) × List (Nat × Nat)
def fm_tt (T : List fm_Ty) (i : Nat) : fm_Ty := T.getD i (0, 0, 0)
def fm_ll (L : fm_Li) (i : Nat) : Nat := L.1.getD i 0
def fm_xx (X : List (Nat × fm_Li)) (i : Nat) : Nat × fm_Li := X.getD i (0, [], 0)
def fm_jj (J : List (Nat × Nat)) (i : Nat) : Nat × Nat := J.getD i (0, 0)
/-- the besides of a line, out of its gaps -/
def fm_be (L : fm_Li) : Nat := 2 ^ (L.1.length - 1) - (L.2 + 1)
def fm_ok (t : fm_Ty) : Prop := t.2.1 < 12 ∧ ((t.1 = 0 ∧ t.2.2 = 0) ∨ (t.1 = 1 ∧ t.2.2 < 12 ∧ t.2.2 ≠ t.2.1) ∨ (t.1 = 2 ∧ t.2.2 < 12) ∨ (t.1 = 3 ∧ 1 ≤ t.2.2 ∧ t.2.2 ≤ 9))
def wT (T : List fm_Ty) : Prop := T.length ≤ 10 ∧ ∀ i, i < T.length → fm_ok (fm_tt T i)
def wL (L : fm_Li) : Prop := L.1.length ≤ 10 ∧ (∀ i, i < L.1.length → fm_ll L i < 12) ∧ L.2 < 2 ^ (L.1.length - 1)
def wX (X : List (Nat × fm_Li)) : Prop := X.length ≤ 8 ∧ ∀ i, i < X.length → (fm_xx X i).1 < 4 ∧ wL (fm_xx X i).2 ∧ 1 ≤ (fm_xx X i).2.1.length
def wJ (J : List (Nat × Nat)) : Prop := J.length ≤ 8 ∧ ∀ i, i < J.length → (1 ≤ (fm_jj J i).1 ∧ (fm_jj J i).1 ≤ 24) ∧ 1 ≤ (fm_jj J i).2 ∧ (fm_jj J i).2 ≤ 200
def wW (wd : Nat → Nat) : Prop := ∀ i, i < 12 → 1 ≤ wd i ∧ wd i ≤ 4
def wR (ru : Nat → Nat) : Prop := ru 0 ≤ 1 ∧ ru 1 ≤ 3 ∧ 1 ≤ ru 2 ∧ ru 2 ≤ 9
def wC (C : fm_C) : Prop := wT C.1 ∧ wL C.2.1 ∧ wW C.2.2.1 ∧ wR C.2.2.2.1 ∧ wX C.2.2.2.2.1 ∧ wJ C.2.2.2.2.2
/-- a case, a line: a size, and rows -/
def rT (sz : Int32) (k l m : Nat → Int32) (T : List fm_Ty) : Prop := sz = nI T.length ∧ ∀ i, i < T.length → k i = nI (fm_tt T i).1 ∧ l i = nI (fm_tt T i).2.1 ∧ m i = nI (fm_tt T i).2.2
def rL (sz : Int32) (l : Nat → Int32) (L : fm_Li) : Prop := sz = nI L.1.length ∧ ∀ i, i < L.1.length → l i = nI (fm_ll L i)
def rJ (sz : Int32) (h d : Nat → Int32) (J : List (Nat × Nat)) : Prop := sz = nI J.length ∧ ∀ i, i < J.length → h i = nI (fm_jj J i).1 ∧ d i = nI (fm_jj J i).2
/-- a line of the class at the cell a -/
def xL (a : Nat) (μ : fw_M) (L : fm_Li) : Prop := rL (μ.1 a 1) (μ.1 (a + 1)) L ∧ μ.1 a 2 = nI (fm_be L)
def xX (b : Nat) (μ : fw_M) (X : List (Nat × fm_Li)) : Prop := μ.1 b 6 = nI X.length ∧ ∀ t, t < X.length → xL (b + 10 + 2 * t) μ (fm_xx X t).2 ∧ μ.1 (b + 26) t = nI (fm_xx X t).1
/-- a shop of the class at the cell b -/
def xS (b : Nat) (μ : fw_M) (C : fm_C) : Prop := rT (μ.1 (b + 1) 3) (μ.1 (b + 2)) (μ.1 (b + 3)) (μ.1 (b + 4)) C.1 ∧ xL (b + 5) μ C.2.1 ∧ (∀ i, i < 12 → μ.1 (b + 7) i = nI (C.2.2.1 i)) ∧ (∀ i, i < 3 → μ.1 (b + 8) i = nI (C.2.2.2.1 i)) ∧ xX b μ C.2.2.2.2.1 ∧ rJ (μ.1 (b + 27) 3) (μ.1 (b + 28)) (μ.1 (b + 29)) C.2.2.2.2.2
/-- the reference's core, out of a memory of its cells 0 .. 9 -/
def mX (g : Nat → Nat → Int32) (X : List (Nat × fm_Li)) : Prop := g 0 9 = nI X.length ∧ ∀ t, t < X.length → g 7 (13 * t) = nI (fm_xx X t).2.1.length ∧ g 7 (13 * t + 1) = nI (fm_xx X t).2.2 ∧ g 7 (13 * t + 2) = nI (fm_xx X t).1 ∧ ∀ p, p < (fm_xx X t).2.1.length → g 7 (13 * t + 3 + p) = nI (fm_ll (fm_xx X t).2 p)
def mS (g : Nat → Nat → Int32) (C : fm_C) : Prop := rT (g 0 0) (g 1) (g 2) (g 3) C.1 ∧ (rL (g 0 6) (g 6) C.2.1 ∧ g 0 8 = nI C.2.1.2) ∧ (∀ i, i < 12 → g 4 i = nI (C.2.2.1 i)) ∧ (∀ i, i < 3 → g 5 i = nI (C.2.2.2.1 i)) ∧ mX g C.2.2.2.2.1 ∧ rJ (g 0 11) (g 8) (g 9) C.2.2.2.2.2
/-- the image's row as such a memory -/
def fm_im (f : Nat → Int32) : Nat → Nat → Int32 := fun k j => match k with
  | 0 => if j = 0 then f 175 else if j = 6 then f 176 else if j = 8 then f 177 else if j = 9 then f 178 else f 179
  | 1 => f j
  | 2 => f (10 + j)
  | 3 => f (20 + j)
  | 4 => f (30 + j)
  | 5 => f (42 + j)
  | 6 => f (45 + j)
  | 7 => f (55 + j)
  | 8 => f (159 + j)
  | _ => f (167 + j)
def fm_bb (t : List Nat) (i : Nat) : Nat := t.getD i 0
/-- the tape -/
def rB (sz : Int32) (b : Nat → Int32) (t : List Nat) : Prop := sz = nI t.length ∧ ∀ i, i < t.length → b i = nI (fm_bb t i)
def wB (t : List Nat) : Prop := t.length ≤ 60 ∧ ∀ i, i < t.length → 32 ≤ fm_bb t i ∧ fm_bb t i ≤ 126
/-- a sheet -/
def rH (μx μm : fw_M) (s : Nat) : Prop := (μx.1 (86 + 2 * s) 3 = 0 ∧ μm.1 24 s = -1) ∨ (μx.1 (86 + 2 * s) 3 = 1 ∧ ∃ l z : Nat, l < 3 ∧ z ≤ 24 ∧ μx.1 (86 + 2 * s) 1 = nI l ∧ μm.1 24 s = nI l ∧ μx.1 (86 + 2 * s) 2 = nI z ∧ μm.1 25 s = nI z ∧ ∀ i, i < 24 → μx.1 (86 + 2 * s + 1) i = μm.1 26 (24 * s + i))
/-- the marks of the reference -/
def rK (n : Nat) (μm : fw_M) : Prop := ∃ m : Nat, m ≤ 20000 * n ∧ μm.1 0 21 = nI m ∧ ∀ i, i < 11264 → ∃ k : Nat, k ≤ m ∧ μm.1 13 i = nI k
theorem rK.up {n m : Nat} {μ : fw_M} (h : rK n μ) (hm : n ≤ m) : rK m μ := by
  obtain ⟨k, h1, h2, h3⟩ := h
  exact ⟨k, by omega, h2, h3⟩
theorem rK.cong {n : Nat} {μ ν : fw_M} (h : rK n μ) (h1 : ν.1 0 21 = μ.1 0 21) (h2 : ν.1 13 = μ.1 13) : rK n ν := by
  obtain ⟨k, a, b, c⟩ := h
  exact ⟨k, a, h1.trans b, fun i hi => by rw [h2]; exact c i hi⟩
theorem xL.cong {a : Nat} {μ ν : fw_M} {L : fm_Li} (h : xL a μ L) (h1 : ν.1 a = μ.1 a) (h2 : ν.1 (a + 1) = μ.1 (a + 1)) : xL a ν L := by
  unfold xL at *
  rw [h1, h2]
  exact h
theorem xX.cong {b : Nat} {μ ν : fw_M} {X : List (Nat × fm_Li)} (h : xX b μ X) (h1 : ∀ k, b ≤ k → k ≤ b + 30 → ν.1 k = μ.1 k) (hX : X.length ≤ 8) : xX b ν X := by
  refine ⟨by rw [h1 b (by omega) (by omega)]; exact h.1, fun t ht => ⟨(h.2 t ht).1.cong (h1 _ (by omega) (by omega)) (h1 _ (by omega) (by omega)), ?_⟩⟩
  rw [h1 (b + 26) (by omega) (by omega)]
  exact (h.2 t ht).2
theorem xS.cong {b : Nat} {μ ν : fw_M} {C : fm_C} (h : xS b μ C) (h1 : ∀ k, b ≤ k → k ≤ b + 30 → ν.1 k = μ.1 k) (hX : C.2.2.2.2.1.length ≤ 8) : xS b ν C := by
  obtain ⟨a1, a2, a3, a4, a5, a6⟩ := h
  refine ⟨?_, a2.cong (h1 _ (by omega) (by omega)) (h1 _ (by omega) (by omega)), ?_, ?_, a5.cong h1 hX, ?_⟩
  · rw [h1 (b + 1) (by omega) (by omega), h1 (b + 2) (by omega) (by omega), h1 (b + 3) (by omega) (by omega), h1 (b + 4) (by omega) (by omega)]; exact a1
  · rw [h1 (b + 7) (by omega) (by omega)]; exact a3
  · rw [h1 (b + 8) (by omega) (by omega)]; exact a4
  · rw [h1 (b + 27) (by omega) (by omega), h1 (b + 28) (by omega) (by omega), h1 (b + 29) (by omega) (by omega)]; exact a6
theorem rH.cong {μx μm νx νm : fw_M} {s : Nat} (h : rH μx μm s) (h1 : νx.1 (86 + 2 * s) = μx.1 (86 + 2 * s)) (h2 : νx.1 (86 + 2 * s + 1) = μx.1 (86 + 2 * s + 1)) (h3 : νm.1 24 = μm.1 24) (h4 : νm.1 25 = μm.1 25) (h5 : νm.1 26 = μm.1 26) : rH νx νm s := by
  unfold rH at *
  rw [h1, h2, h3, h4, h5]
  exact h
theorem fm_be_bit {L : fm_Li} (h : wL L) (p : Nat) : (fm_be L).testBit p = (decide (p + 1 < L.1.length) && !L.2.testBit p) := by
  unfold fm_be
  rw [Nat.testBit_two_pow_sub_succ h.2.2]
  congr 1
  exact decide_eq_decide.mpr (by omega)
theorem fm_be_lt {L : fm_Li} (h : wL L) : fm_be L < 1024 := by
  have h1 : 2 ^ (L.1.length - 1) ≤ 2 ^ 9 := Nat.pow_le_pow_right (by omega) (by have := h.1; omega)
  unfold fm_be
  omega
theorem fm_ga_lt {L : fm_Li} (h : wL L) : L.2 < 1024 := by
  have h1 : 2 ^ (L.1.length - 1) ≤ 2 ^ 9 := Nat.pow_le_pow_right (by omega) (by have := h.1; omega)
  have := h.2.2
  omega
