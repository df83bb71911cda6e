/-! the orders, one after another -/
def exr (g : Nat → List (List Nat)) (pre : List Nat) : Nat → List (List Nat)
  | 0 => []
  | i + 1 => exr g pre i ++ (if i ∈ pre then [] else g i)
def ex (N : Nat) : Nat → List Nat → List (List Nat)
  | 0, pre => [pre]
  | d + 1, pre => exr (fun k => ex N d (pre ++ [k])) pre N
theorem exr_mem {g : Nat → List (List Nat)} {pre σ : List Nat} : ∀ i, σ ∈ exr g pre i → ∃ k, k < i ∧ k ∉ pre ∧ σ ∈ g k := by
  intro i
  induction i with
  | zero => intro h; cases h
  | succ i ih =>
    intro h
    rcases List.mem_append.mp h with h | h
    · obtain ⟨k, a, b, c⟩ := ih h
      exact ⟨k, by omega, b, c⟩
    · by_cases q : i ∈ pre
      · rw [if_pos q] at h; cases h
      · rw [if_neg q] at h; exact ⟨i, by omega, q, h⟩
theorem ex_pre {N : Nat} : ∀ (d : Nat) (pre σ : List Nat), σ ∈ ex N d pre → σ.length = pre.length + d ∧ ∀ i, i < pre.length → σ.getD i 0 = pre.getD i 0 := by
  intro d
  induction d with
  | zero =>
    intro pre σ h
    have := List.mem_singleton.mp h
    subst this
    exact ⟨rfl, fun _ _ => rfl⟩
  | succ d ih =>
    intro pre σ h
    obtain ⟨k, _, _, h2⟩ := exr_mem N h
    obtain ⟨a, b⟩ := ih _ _ h2
    rw [List.length_append, List.length_singleton] at a b
    refine ⟨by omega, fun i hi => ?_⟩
    rw [b i (by omega)]
    exact fm_gDa hi
/-- an order is taken if it is less -/
def sp (cost : List Nat → Nat) (st : Nat × List Nat) (σ : List Nat) : Nat × List Nat := if cost σ < st.1 then (cost σ, σ) else st
theorem sp_id {cost : List Nat → Nat} {st : Nat × List Nat} : ∀ (l : List (List Nat)), (∀ σ, σ ∈ l → st.1 ≤ cost σ) → l.foldl (sp cost) st = st := by
  intro l
  induction l with
  | nil => intro _; rfl
  | cons x l ih =>
    intro h
    show l.foldl (sp cost) (sp cost st x) = st
    have : sp cost st x = st := by
      unfold sp
      rw [if_neg (by have := h x (List.mem_cons_self ..); omega)]
    rw [this]
    exact ih (fun σ hσ => h σ (List.mem_cons_of_mem _ hσ))
theorem sp_le {cost : List Nat → Nat} : ∀ (l : List (List Nat)) (st : Nat × List Nat), (l.foldl (sp cost) st).1 ≤ st.1 := by
  intro l
  induction l with
  | nil => intro st; exact Nat.le_refl _
  | cons x l ih =>
    intro st
    show (l.foldl (sp cost) (sp cost st x)).1 ≤ st.1
    have h1 := ih (sp cost st x)
    have h2 : (sp cost st x).1 ≤ st.1 := by
      unfold sp
      split
      · show cost x ≤ st.1; omega
      · exact Nat.le_refl _
    omega
/-- the class's weights, its trial, its best -/
def xWt (μ : fw_M) (W : Nat → Nat → Nat → Nat) (N : Nat) : Prop := ∀ a b c, a < N → b < N → c < N → μ.1 72 ((a * 6 + b) * 6 + c) = nI (W a b c)
def xB (μ : fw_M) (N : Nat) (st : Nat × List Nat) : Prop := μ.1 71 4 = nI st.1 ∧ st.1 ≤ 1000 ∧ (st.1 < 1000 → ∀ i, i < N → μ.1 74 i = nI (st.2.getD i 0))
theorem fx_cwe {μ : fw_M} {W : Nat → Nat → Nat → Nat} {N j : Nat} {σ : Nat → Nat} (hN : N ≤ 6) (hW : xWt μ W N) (hj : j < N) (hσ : ∀ i, i ≤ j → μ.1 73 i = nI (σ i) ∧ σ i < N) : f_Orders_clashesWithEarlier (nI j) μ = some (nI (ocw W σ j)) := by
  unfold f_Orders_clashesWithEarlier
  have h : fm_T (fw_wh (f_Orders_clashesWithEarlier_L4 (nI j) μ) fw_N (0, 0)) (fun r => r = nI (ocw W σ j)) := by
    refine fm_up (P := fun i s => s.2 = nI i ∧ s.1 = nI (fm_su (fun i => W (σ i) (σ j) (j - i)) i)) j ?_ ?_ 0 (Nat.zero_le _) ⟨rfl, rfl⟩ (by omega)
    · rintro i ⟨x, y⟩ hi ⟨e1, e2⟩
      simp only at e1 e2
      subst e1 e2
      unfold f_Orders_clashesWithEarlier_L4 f_Orders_slot
      try dsimp only
      obtain ⟨a1, a2⟩ := hσ i (by omega)
      obtain ⟨b1, b2⟩ := hσ j (by omega)
      have lt : (σ i * 6 + σ j) * 6 + (j - i) < 216 := by omega
      rw [if_neg (nI_ge hi (by omega)), fm_rd (by omega) (by omega), fm_bs, fm_rd (by omega) (by omega), fm_bs, a1, b1, pk_sub (by omega), show (6 : Int32) = nI 6 from rfl, pk_mul, nI_add, pk_mul, nI_add, fm_bs, fm_rd lt (by omega), fm_bs, hW _ _ _ a2 b2 (by omega), fm_nm, fm_nm, fm_some, fm_Kl, nI_add]
      exact ⟨nI_1 i, rfl⟩
    · rintro ⟨x, y⟩ ⟨e1, e2⟩
      simp only at e1 e2
      subst e1 e2
      unfold f_Orders_clashesWithEarlier_L4
      try dsimp only
      rw [if_pos (nI_le (Nat.le_refl _) (by omega)), fm_some, fm_Kr]
      rfl
  obtain ⟨r, e, rfl⟩ := h
  rw [e, fm_bs]
theorem fx_asp {μ : fw_M} {W : Nat → Nat → Nat → Nat} {N : Nat} (hN : N ≤ 6) (hW : xWt μ W N) (h3 : μ.1 71 3 = nI N) : fm_T (f_Orders_clashesAsPlanned μ) (fun p => p.1 = nI (oxc W (fun i => i) N) ∧ fm_F [73] μ p.2) := by
  unfold f_Orders_clashesAsPlanned
  rw [fm_bind]
  refine fm_up (P := fun j s => s.2.1 = nI j ∧ s.1 = nI (oxc W (fun i => i) j) ∧ fm_F [73] μ s.2.2 ∧ ∀ i, i < j → s.2.2.1 73 i = nI i) N ?_ ?_ 0 (Nat.zero_le _) ⟨rfl, rfl, fm_F.rf, fun i hi => absurd hi (Nat.not_lt_zero _)⟩ (by omega)
  · rintro j ⟨x, y, ν⟩ hj ⟨e1, e2, F, a1⟩
    simp only at e1 e2 F a1
    subst e1 e2
    unfold f_Orders_clashesAsPlanned_L4
    try dsimp only
    have F2 : fm_F [73] μ (fw_wr ν 73 j (nI j)) := F.wr
    have hW2 : xWt (fw_wr ν 73 j (nI j)) W N := fun a b c ha hb hc => by rw [F2.at 72]; exact hW a b c ha hb hc
    rw [F.at 71, h3, if_neg (nI_ge hj (by omega)), fm_si (by omega) (by omega), fm_bs, fx_cwe (σ := fun i => i) hN hW2 hj (fun i hi => ⟨?_, by show i < N; omega⟩), fm_bs, fm_nm, fm_nm, fm_some, fm_Kl, nI_add]
    · refine ⟨nI_1 j, rfl, F2, fun i hi => ?_⟩
      by_cases e : i = j
      · rw [fm_wr, if_pos ⟨rfl, e⟩, e]
      · rw [fm_wr, if_neg (fun z => e z.2)]; exact a1 i (by omega)
    · by_cases e : i = j
      · rw [fm_wr, if_pos ⟨rfl, e⟩, e]
      · rw [fm_wr, if_neg (fun z => e z.2)]; exact a1 i (by omega)
  · rintro ⟨x, y, ν⟩ ⟨e1, e2, F, a1⟩
    simp only at e1 e2 F a1
    subst e1 e2
    unfold f_Orders_clashesAsPlanned_L4
    try dsimp only
    rw [F.at 71, h3, if_pos (nI_le (Nat.le_refl _) (by omega)), fm_some, fm_Kr, fm_some]
    exact ⟨rfl, F⟩
theorem fx_try {W : Nat → Nat → Nat → Nat} {N : Nat} (hN : N ≤ 6) (W1 : ∀ a b c, W a b c ≤ 100) : ∀ (d e : Nat) (pre : List Nat) (U : Nat) (st : Nat × List Nat) (μ : fw_M), pre.length + d = N → (∀ i, i < pre.length → μ.1 73 i = nI (pre.getD i 0) ∧ pre.getD i 0 < N) → U < 64 → (∀ k, k < N → (U.testBit k = true ↔ k ∈ pre)) → μ.1 71 3 = nI N → xWt μ W N → xB μ N st → fm_T (f_Orders_tryFrom (d + 1 + e) (nI pre.length) (nI U) (nI (oxc W (fun i => pre.getD i 0) pre.length)) μ) (fun ν => fm_F [71, 73, 74] μ ν ∧ (∀ j, j ≠ 4 → ν.1 71 j = μ.1 71 j) ∧ (∀ i, i < pre.length → ν.1 73 i = μ.1 73 i) ∧ xB ν N ((ex N d pre).foldl (sp (fun σ => oxc W (fun i => σ.getD i 0) N)) st)) := by
  intro d
  induction d with
  | zero =>
    intro e pre U st μ hl h73 hU hb h3 hW hB
    have hx := oxc_b (σ := fun i => pre.getD i 0) (n := pre.length) W1 (by omega)
    have eN : pre.length = N := by omega
    rw [show 0 + 1 + e = e + 1 by omega]
    unfold f_Orders_tryFrom
    rw [fm_nm, hB.1, h3, eN]
    rw [eN] at hx h73
    show fm_T _ (fun ν => _ ∧ _ ∧ _ ∧ xB ν N (sp (fun σ => oxc W (fun i => σ.getD i 0) N) st pre))
    have hb1 := hB.2.1
    by_cases lt : oxc W (fun i => pre.getD i 0) N < st.1
    · rw [if_pos (nI_lt lt (by omega)), if_neg (nI_nlt (Nat.le_refl _) (by omega)), fm_nm]
      have e3 : (fw_wr μ 71 4 (nI (oxc W (fun i => pre.getD i 0) N))).1 71 3 = nI N := by rw [fm_wr, if_neg (by decide)]; exact h3
      rw [e3, fm_cpz (n := N) (by omega) (by omega) (by omega) (by omega), fm_bs, fm_some]
      unfold sp
      rw [if_pos lt]
      refine ⟨(fm_F.rf.wr).wc, fun j hj => by rw [fm_wcn (by decide), fm_wr, if_neg (fun z => hj z.2)], fun i hi => by rw [fm_wcn (by decide), fm_wrn (by decide)], ?_, by show oxc W (fun i => pre.getD i 0) N ≤ 1000; omega, fun _ i hi => ?_⟩
      · rw [fm_wcn (by decide), fm_wr, if_pos ⟨rfl, rfl⟩]
      · rw [fm_wcs, fm_cpy0 hi, fm_wrn (by decide)]
        exact (h73 i hi).1
    · rw [if_neg (nI_nlt (by omega) (by omega)), fm_some]
      unfold sp
      rw [if_neg lt]
      exact ⟨fm_F.rf, fun _ _ => rfl, fun _ _ => rfl, hB⟩
  | succ d ih =>
    intro e pre U st μ hl h73 hU hb h3 hW hB
    have hx := oxc_b (σ := fun i => pre.getD i 0) (n := pre.length) W1 (by omega)
    rw [show d + 1 + 1 + e = (d + 1 + e) + 1 by omega]
    unfold f_Orders_tryFrom
    rw [fm_nm, hB.1, h3]
    have hb1 := hB.2.1
    by_cases lt : oxc W (fun i => pre.getD i 0) pre.length < st.1
    · rw [if_pos (nI_lt lt (by omega)), if_pos (nI_lt (by omega) (by omega)), fm_bind]
      refine fm_up (P := fun k s => s.1 = nI k ∧ fm_F [71, 73, 74] μ s.2 ∧ (∀ j, j ≠ 4 → s.2.1 71 j = μ.1 71 j) ∧ (∀ i, i < pre.length → s.2.1 73 i = μ.1 73 i) ∧ xB s.2 N ((exr (fun k => ex N d (pre ++ [k])) pre k).foldl (sp (fun σ => oxc W (fun i => σ.getD i 0) N)) st)) N ?_ ?_ 0 (Nat.zero_le _) ⟨rfl, fm_F.rf, fun _ _ => rfl, fun _ _ => rfl, hB⟩ (by omega)
      · rintro k ⟨x, ν⟩ hk ⟨e1, F, Z, t1, B1⟩
        simp only at e1 F Z t1 B1
        subst e1
        unfold f_Orders_tryFrom_L43
        try dsimp only
        rw [Z 3 (by decide), h3, if_neg (nI_ge hk (by omega)), fm_inSet (by omega) (by omega), fm_bs]
        have fo : exr (fun k => ex N d (pre ++ [k])) pre (k + 1) = exr (fun k => ex N d (pre ++ [k])) pre k ++ (if k ∈ pre then [] else ex N d (pre ++ [k])) := rfl
        rw [fo, List.foldl_append]
        by_cases q : k ∈ pre
        · rw [if_pos ((hb k hk).mpr q), if_neg fm_n10, fm_bs, fm_nm, fm_some, fm_Kl, if_pos q]
          exact ⟨nI_1 k, F, Z, t1, B1⟩
        · rw [if_neg (fun z => q ((hb k hk).mp z)), if_pos rfl, fm_si (by omega) (by omega), fm_bs, if_neg q]
          have F2 : fm_F [71, 73, 74] μ (fw_wr ν 73 pre.length (nI k)) := F.wr
          have hW2 : xWt (fw_wr ν 73 pre.length (nI k)) W N := fun a b c ha hb hc => by rw [F2.at 72]; exact hW a b c ha hb hc
          have len2 : (pre ++ [k]).length = pre.length + 1 := by rw [List.length_append, List.length_singleton]
          have r73 : ∀ i, i < pre.length + 1 → (fw_wr ν 73 pre.length (nI k)).1 73 i = nI ((pre ++ [k]).getD i 0) ∧ (pre ++ [k]).getD i 0 < N := fun i hi => by
            by_cases c : i < pre.length
            · rw [fm_wr, if_neg (by omega), show (pre ++ [k]).getD i 0 = pre.getD i 0 from fm_gDa c, t1 i c]
              exact h73 i c
            · rw [show i = pre.length by omega, fm_wr, if_pos ⟨rfl, rfl⟩, show (pre ++ [k]).getD pre.length 0 = k from fm_gDl]
              exact ⟨rfl, hk⟩
          rw [fx_cwe (σ := fun i => (pre ++ [k]).getD i 0) hN hW2 (by omega) (fun i hi => r73 i (by omega)), fm_bs, nI_1, fm_one (by omega), fm_or, nI_add]
          have ec : oxc W (fun i => pre.getD i 0) pre.length + ocw W (fun i => (pre ++ [k]).getD i 0) pre.length = oxc W (fun i => (pre ++ [k]).getD i 0) (pre ++ [k]).length := by
            rw [len2, oxc_c (τ := fun i => (pre ++ [k]).getD i 0) (fun i hi => (fm_gDa hi).symm)]
            rfl
          rw [ec, fm_bind, fm_bind, ← len2]
          refine (ih e (pre ++ [k]) (U ||| 2 ^ k) ((exr (fun k => ex N d (pre ++ [k])) pre k).foldl (sp (fun σ => oxc W (fun i => σ.getD i 0) N)) st) (fw_wr ν 73 pre.length (nI k)) (by omega) (fun i hi => r73 i (by omega)) (fm_or_lt (m := 6) hU (by omega)) ?_ ?_ hW2 ?_).mono ?_
          · intro k2 h2
            rw [fm_or_bit, Bool.or_eq_true, hb k2 h2, decide_eq_true_eq, List.mem_append, List.mem_singleton]
          · rw [fm_wrn (by decide), Z 3 (by decide)]; exact h3
          · exact ⟨by rw [fm_wrn (by decide)]; exact B1.1, B1.2.1, fun z i hi => by rw [fm_wrn (by decide)]; exact B1.2.2 z i hi⟩
          · intro o ⟨O, OZ, Ot, OB⟩
            rw [fm_some, fm_nm, fm_some, fm_Kl]
            refine ⟨nI_1 k, F2.tr O, fun j hj => by rw [OZ j hj, fm_wrn (by decide)]; exact Z j hj, fun i hi => ?_, OB⟩
            rw [Ot i (by omega), fm_wr, if_neg (by omega)]
            exact t1 i hi
      · rintro ⟨x, ν⟩ ⟨e1, F, Z, t1, B1⟩
        simp only at e1 F Z t1 B1
        subst e1
        unfold f_Orders_tryFrom_L43
        try dsimp only
        rw [Z 3 (by decide), h3, if_pos (nI_le (Nat.le_refl _) (by omega)), fm_some, fm_Kr, fm_some]
        exact ⟨F, Z, t1, B1⟩
    · rw [if_neg (nI_nlt (by omega) (by omega)), fm_some, sp_id]
      · exact ⟨fm_F.rf, fun _ _ => rfl, fun _ _ => rfl, hB⟩
      · intro σ hσ
        obtain ⟨a, b⟩ := ex_pre _ _ _ hσ
        have m1 : oxc W (fun i => σ.getD i 0) pre.length ≤ oxc W (fun i => σ.getD i 0) N := fm_su_mono N (by omega)
        rw [oxc_c (τ := fun i => pre.getD i 0) b] at m1
        show st.1 ≤ oxc W (fun i => σ.getD i 0) N
        omega
theorem fx_best {μ : fw_M} {W : Nat → Nat → Nat → Nat} {N : Nat} (hN : N ≤ 6) (W1 : ∀ a b c, W a b c ≤ 100) (hW : xWt μ W N) (h3 : μ.1 71 3 = nI N) : fm_T (f_Orders_findBest μ) (fun ν => fm_F [71, 73, 74] μ ν ∧ xB ν N ((ex N N []).foldl (sp (fun σ => oxc W (fun i => σ.getD i 0) N)) (1000, []))) := by
  unfold f_Orders_findBest
  rw [fm_nm, fm_bind]
  have F1 : fm_F [71, 73, 74] μ (fw_wr μ 71 4 1000) := fm_F.rf.wr
  refine (show fm_T (f_Orders_tryFrom 8 0 0 0 (fw_wr μ 71 4 1000)) _ from ?_)
  have := fx_try (W := W) hN W1 N (7 - N) [] 0 (1000, []) (fw_wr μ 71 4 1000) (by show 0 + N = N; omega) (fun i hi => absurd hi (Nat.not_lt_zero _)) (by omega) (fun k hk => ⟨fun z => by simp at z, fun z => by cases z⟩) (by rw [fm_wr, if_neg (by decide)]; exact h3) (fun a b c ha hb hc => by rw [fm_wrn (by decide)]; exact hW a b c ha hb hc) ⟨by rw [fm_wr, if_pos ⟨rfl, rfl⟩]; rfl, Nat.le_refl _, fun z => absurd z (Nat.lt_irrefl _)⟩
  rw [show N + 1 + (7 - N) = 8 by omega] at this
  refine this.mono ?_
  intro ν ⟨O, _, _, OB⟩
  rw [fm_some]
  exact ⟨F1.tr O, OB⟩
