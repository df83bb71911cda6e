/-! the tape: blanks are passed over -/
def skf (t : List Nat) : Nat → Nat → Nat
  | 0, a => a
  | k + 1, a => if fm_bb t a = 32 then skf t k (a + 1) else a
def sk (t : List Nat) (a : Nat) : Nat := skf t (t.length - a) a
theorem sk_1 {t : List Nat} {a : Nat} (h : a < t.length) (h2 : fm_bb t a = 32) : sk t a = sk t (a + 1) := by
  unfold sk
  obtain ⟨k, hk⟩ : ∃ k, t.length - a = k + 1 := ⟨t.length - a - 1, by omega⟩
  rw [hk, show t.length - (a + 1) = k by omega, skf, if_pos h2]
theorem sk_0 {t : List Nat} {a : Nat} (h2 : ¬ fm_bb t a = 32) : sk t a = a := by
  unfold sk
  by_cases e : t.length - a = 0
  · rw [e]; rfl
  · obtain ⟨k, hk⟩ : ∃ k, t.length - a = k + 1 := ⟨t.length - a - 1, by omega⟩
    rw [hk, skf, if_neg h2]
theorem sk_e {t : List Nat} {a : Nat} (h : t.length ≤ a) : sk t a = a := by
  unfold sk
  rw [show t.length - a = 0 by omega]; rfl
theorem sk_b {t : List Nat} : ∀ (k a : Nat), t.length - a ≤ k → a ≤ t.length → a ≤ sk t a ∧ sk t a ≤ t.length ∧ (sk t a < t.length → fm_bb t (sk t a) ≠ 32) := by
  intro k
  induction k with
  | zero => intro a h1 h2; rw [sk_e (by omega)]; exact ⟨Nat.le_refl _, h2, fun z => by omega⟩
  | succ k ih =>
    intro a h1 h2
    by_cases e : a = t.length
    · rw [sk_e (by omega)]; exact ⟨Nat.le_refl _, h2, fun z => by omega⟩
    · by_cases q : fm_bb t a = 32
      · rw [sk_1 (by omega) q]
        obtain ⟨x, y, z⟩ := ih (a + 1) (by omega) (by omega)
        exact ⟨by omega, y, z⟩
      · rw [sk_0 q]; exact ⟨Nat.le_refl _, h2, fun _ => q⟩
theorem sk_p {t : List Nat} {a : Nat} (h : a ≤ t.length) : a ≤ sk t a ∧ sk t a ≤ t.length ∧ (sk t a < t.length → fm_bb t (sk t a) ≠ 32) := sk_b t.length a (by omega) h
theorem sk_s {t : List Nat} {a : Nat} (h : a ≤ t.length) : sk t (sk t a) = sk t a := by
  obtain ⟨x, y, z⟩ := sk_p h
  by_cases e : sk t a < t.length
  · exact sk_0 (z e)
  · exact sk_e (by omega)
/-- the class at place a of the tape -/
def xT (μ : fw_M) (t : List Nat) (a : Nat) : Prop := rB (μ.1 63 1) (μ.1 64) t ∧ μ.1 63 2 = nI a
def yT (μ : fw_M) (t : List Nat) (a : Nat) : Prop := rB (μ.1 0 15) (μ.1 10) t ∧ μ.1 0 16 = nI a
theorem fx_next {μ : fw_M} {t : List Nat} {a : Nat} (h : xT μ t a) (wt : wB t) (ha : a ≤ t.length) : fm_T (f_Tape_nextSign μ) (fun p => p.1 = (if sk t a < t.length then nI (fm_bb t (sk t a)) else -1) ∧ fm_F [63] μ p.2 ∧ (∀ j, j ≠ 2 → p.2.1 63 j = μ.1 63 j) ∧ xT p.2 t (sk t a)) := by
  have h60 := wt.1
  unfold f_Tape_nextSign
  rw [fm_bind]
  refine fm_wh (P := fun i ν => ∃ b, b ≤ t.length ∧ i = t.length - b ∧ sk t b = sk t a ∧ fm_F [63] μ ν ∧ (∀ j, j ≠ 2 → ν.1 63 j = μ.1 63 j) ∧ ν.1 63 2 = nI b) ?_ (i := t.length - a) ⟨a, ha, rfl, rfl, fm_F.rf, fun _ _ => rfl, h.2⟩ (by omega)
  rintro i ν ⟨b, hb, rfl, sb, F, Z, v⟩
  have s1 : ν.1 63 1 = nI t.length := (Z 1 (by decide)).trans h.1.1
  have xt : xT ν t b := ⟨⟨s1, fun i hi => by rw [F.at 64]; exact h.1.2 i hi⟩, v⟩
  unfold f_Tape_nextSign_L0
  rw [s1, v]
  by_cases e : b = t.length
  · have es : sk t a = b := by rw [← sb]; exact sk_e (by omega)
    rw [if_pos (nI_le (by omega) (by omega)), fm_some, fm_Kr, s1, v, if_pos (nI_le (by omega) (by omega)), fm_bs, fm_some, es, if_neg (by omega)]
    exact ⟨rfl, F, Z, xt⟩
  · have bb := (wt.2 b (by omega)).2
    rw [if_neg (nI_ge (by omega) (by omega)), fm_rd (by omega) (by omega), fm_bs, F.at 64, h.1.2 b (by omega)]
    by_cases q : fm_bb t b = 32
    · rw [q, if_pos (show nI 32 = 32 from rfl), fm_nm, fm_some, fm_Kl]
      refine ⟨t.length - (b + 1), by omega, b + 1, by omega, rfl, by rw [← sb, sk_1 (by omega) q], F.wr, fun j hj => by rw [fm_wr, if_neg (fun z => hj z.2)]; exact Z j hj, by rw [fm_wr, if_pos ⟨rfl, rfl⟩, nI_1]⟩
    · have es : sk t a = b := by rw [← sb]; exact sk_0 q
      rw [if_neg (show ¬ nI (fm_bb t b) = 32 from fun z => q ((nI_eq (b := 32) (by omega) (by omega)).mp z)), fm_some, fm_Kr, s1, v, if_neg (nI_ge (by omega) (by omega)), fm_rd (by omega) (by omega), fm_bs, fm_bs, fm_some, es, if_pos (by omega), F.at 64, h.1.2 b (by omega)]
      exact ⟨rfl, F, Z, xt⟩
theorem fy_here {μ : fw_M} {t : List Nat} {a : Nat} (h : yT μ t a) (wt : wB t) (ha : a ≤ t.length) : fm_T (f_M_here μ) (fun p => p.1 = (if sk t a < t.length then nI (fm_bb t (sk t a)) else 0) ∧ fm_F [0] μ p.2 ∧ (∀ j, j ≠ 16 → p.2.1 0 j = μ.1 0 j) ∧ yT p.2 t (sk t a)) := by
  have h60 := wt.1
  unfold f_M_here
  rw [fm_bind]
  refine fm_wh (P := fun i ν => ∃ b, b ≤ t.length ∧ i = t.length - b ∧ sk t b = sk t a ∧ fm_F [0] μ ν ∧ (∀ j, j ≠ 16 → ν.1 0 j = μ.1 0 j) ∧ ν.1 0 16 = nI b) ?_ (i := t.length - a) ⟨a, ha, rfl, rfl, fm_F.rf, fun _ _ => rfl, h.2⟩ (by omega)
  rintro i ν ⟨b, hb, rfl, sb, F, Z, v⟩
  have s1 : ν.1 0 15 = nI t.length := (Z 15 (by decide)).trans h.1.1
  have xt : yT ν t b := ⟨⟨s1, fun i hi => by rw [F.at 10]; exact h.1.2 i hi⟩, v⟩
  unfold f_M_here_L0
  rw [s1, v]
  by_cases e : b = t.length
  · have es : sk t a = b := by rw [← sb]; exact sk_e (by omega)
    rw [if_pos (nI_le (by omega) (by omega)), fm_some, fm_Kr, s1, v, if_pos (nI_le (by omega) (by omega)), fm_bs, fm_some, es, if_neg (by omega)]
    exact ⟨rfl, F, Z, xt⟩
  · have bb := (wt.2 b (by omega)).2
    rw [if_neg (nI_ge (by omega) (by omega)), fm_rd (by omega) (by omega), fm_bs, F.at 10, h.1.2 b (by omega)]
    by_cases q : fm_bb t b = 32
    · rw [q, if_pos (show nI 32 = 32 from rfl), fm_nm, fm_some, fm_Kl]
      refine ⟨t.length - (b + 1), by omega, b + 1, by omega, rfl, by rw [← sb, sk_1 (by omega) q], F.wr, fun j hj => by rw [fm_wr, if_neg (fun z => hj z.2)]; exact Z j hj, by rw [fm_wr, if_pos ⟨rfl, rfl⟩, nI_1]⟩
    · have es : sk t a = b := by rw [← sb]; exact sk_0 q
      rw [if_neg (show ¬ nI (fm_bb t b) = 32 from fun z => q ((nI_eq (b := 32) (by omega) (by omega)).mp z)), fm_some, fm_Kr, s1, v, if_neg (nI_ge (by omega) (by omega)), fm_rd (by omega) (by omega), fm_bs, fm_bs, fm_some, es, if_pos (by omega), F.at 10, h.1.2 b (by omega)]
      exact ⟨rfl, F, Z, xt⟩
abbrev isLe (c : Nat) : Prop := 97 ≤ c ∧ c ≤ 108
/-- reading a line: a fault at a place, or letters and gaps -/
abbrev fpr : Type := Nat ⊕ fm_Li
/-- what follows a letter, given what a next piece reads -/
def pmd (t : List Nat) (pl : Nat → fm_Li → fpr) (a : Nat) (L : fm_Li) : fpr := if sk t a < t.length then (if L.1.length < 10 then (if fm_bb t (sk t a) = 95 then pl (sk t a + 1) (L.1, L.2 ||| 2 ^ (L.1.length - 1)) else pl (sk t a) L) else .inl (sk t a)) else .inr L
def ppl (t : List Nat) : Nat → Nat → fm_Li → fpr
  | 0, a, _ => .inl a
  | k + 1, a, L => if sk t a < t.length ∧ isLe (fm_bb t (sk t a)) then pmd t (ppl t k) (sk t a + 1) (L.1 ++ [fm_bb t (sk t a) - 97], L.2) else .inl (sk t a)
theorem fm_l_app {l : List Nat} {g c i : Nat} (h : i < l.length) : fm_ll (l ++ [c], g) i = fm_ll (l, g) i := fm_gDa h
theorem fm_l_last {l : List Nat} {g c : Nat} : fm_ll (l ++ [c], g) l.length = c := fm_gDl
/-- a line so far -/
def wLs (L : fm_Li) : Prop := (∀ i, i < L.1.length → fm_ll L i < 12)
theorem be_add {n g : Nat} (h : g < 2 ^ n) : (2 ^ n - (g + 1)) ||| 2 ^ n = 2 ^ (n + 1) - (g + 1) := by
  apply Nat.eq_of_testBit_eq
  intro i
  rw [Nat.testBit_or, Nat.testBit_two_pow, Nat.testBit_two_pow_sub_succ h, Nat.testBit_two_pow_sub_succ (by rw [Nat.pow_succ]; omega)]
  by_cases c : i < n
  · rw [decide_eq_true c, decide_eq_false (show ¬ n = i by omega), decide_eq_true (show i < n + 1 by omega)]; simp
  · by_cases e : i = n
    · subst e
      rw [decide_eq_false c, decide_eq_true (show i < i + 1 by omega), Nat.testBit_lt_two_pow h]; simp
    · rw [decide_eq_false c, decide_eq_false (show ¬ n = i by omega), decide_eq_false (show ¬ i < n + 1 by omega)]; rfl
theorem be_gap {n g : Nat} (h : g < 2 ^ n) : 2 ^ (n + 1) - ((g ||| 2 ^ n) + 1) = 2 ^ n - (g + 1) ∧ g ||| 2 ^ n < 2 ^ (n + 1) := by
  have e : g ||| 2 ^ n = g + 2 ^ n := by
    have h1 := Nat.two_pow_add_eq_or_of_lt h 1
    rw [Nat.mul_one] at h1
    rw [Nat.or_comm, ← h1, Nat.add_comm]
  rw [e, Nat.pow_succ]
  omega
theorem fh_97 {c : Nat} (h : c ≤ 126) : f_X_isLetter (nI c - 97) = some (if isLe c then 1 else 0) := by
  rw [fh_isLetter, show (97 : Int32) = nI 97 from rfl]
  by_cases q : 97 ≤ c
  · rw [pk_sub q]
    by_cases r : c ≤ 108
    · rw [if_pos (show 0 ≤ nI (c - 97) ∧ nI (c - 97) < 12 from fh_csI (n := 12) (by omega) (by omega)), if_pos ⟨q, r⟩]
    · rw [if_neg (fun z => by have := (nI_ltI (b := 12) (show c - 97 < 2147483648 by omega) (by omega)).mp z.2; omega), if_neg (fun z => r z.2)]
  · rw [if_neg (fun z => Int32.not_lt.mpr z.1 (pk_sneg (by omega) (by omega))), if_neg (fun z => q z.1)]
/-! the class reads a line -/
theorem fh_ok75 : fw_okL 75 := ⟨rfl, rfl⟩
def xLL (μ : fw_M) (l : List Nat) (b : Nat) : Prop := μ.1 75 1 = nI l.length ∧ (∀ i, i < l.length → μ.1 76 i = nI (l.getD i 0)) ∧ μ.1 75 2 = nI b
theorem fx_ladd {μ : fw_M} {l : List Nat} {b c : Nat} {fl : Int32} (h : xLL μ l b) (hl : l.length < 10) (hb : b < 1024) : fm_T (f_Line_add 75 (nI c) fl μ) (fun ν => fm_F [75, 76] μ ν ∧ xLL ν (l ++ [c]) (if 1 ≤ l.length ∧ fl = 0 then b ||| 2 ^ (l.length - 1) else b)) := by
  unfold f_Line_add
  rw [if_pos fh_ok75, h.1, if_neg (fh_nge (c := 10) (b := 10) rfl hl (by omega)), fm_bind, fm_bind]
  have fin : ∀ (ν : fw_M) (b2 : Nat), fm_F [75, 76] μ ν → xLL ν l b2 → fm_T ((fw_si 10 ν (75 + 1) (ν.1 75 1) (nI c)).bind fun μ46 => fw_nm (fw_wr μ46 75 1 ((μ46.1 75 1) + 1)) fun (μ54 : fw_M) => some μ54) (fun a => fm_T (some a) fun ν => fm_F [75, 76] μ ν ∧ xLL ν (l ++ [c]) b2) := fun ν b2 F hx => by
    rw [hx.1, fm_si (by omega) (by omega), fm_bs, fm_nm, fm_some, fm_some]
    refine ⟨(F.wr).wr, ?_, fun i hi => ?_, ?_⟩
    · rw [fm_wr, if_pos ⟨rfl, rfl⟩, fm_wrn (by decide), hx.1, nI_1, List.length_append, List.length_singleton]
    · rw [List.length_append, List.length_singleton] at hi
      rw [fm_wrn (by decide)]
      by_cases e : i < l.length
      · rw [fm_wr, if_neg (by omega), show (l ++ [c]).getD i 0 = l.getD i 0 from fm_gDa e]; exact hx.2.1 i e
      · have e2 : i = l.length := by omega
        rw [e2, fm_wr, if_pos ⟨rfl, rfl⟩, show (l ++ [c]).getD l.length 0 = c from fm_gDl]
    · rw [fm_wr, if_neg (by decide), fm_wrn (by decide)]; exact hx.2.2
  by_cases q : 1 ≤ l.length
  · rw [if_neg (nI_nle (by omega) (by omega))]
    by_cases z : fl = 0
    · rw [if_pos z, h.2.2, fm_pred q, fm_one (by omega), fm_or, fm_nm, fm_some, if_pos ⟨q, z⟩]
      exact fin _ _ fm_F.rf.wr ⟨by rw [fm_wr, if_neg (by decide)]; exact h.1, fun i hi => by rw [fm_wrn (by decide)]; exact h.2.1 i hi, by rw [fm_wr, if_pos ⟨rfl, rfl⟩]⟩
    · rw [if_neg z, fm_some, if_neg (fun y => z y.2)]
      exact fin _ _ fm_F.rf h
  · rw [show l.length = 0 by omega, if_pos (show nI 0 ≤ 0 by decide), fm_some, if_neg (by omega)]
    exact fin _ _ fm_F.rf h
theorem fx_rline {μ : fw_M} {t : List Nat} (h : rB (μ.1 63 1) (μ.1 64) t) (wt : wB t) : fm_T (f_Tape_readLine 75 μ) (fun p => fm_F [63, 75, 76] μ p.2 ∧ (∀ j, j ≠ 2 → p.2.1 63 j = μ.1 63 j) ∧ ((∃ e, ppl t (t.length + 1) 0 ([], 0) = .inl e ∧ e ≤ t.length ∧ p.1 = -20 - nI e) ∨ (∃ L, ppl t (t.length + 1) 0 ([], 0) = .inr L ∧ p.1 = nI L.1.length ∧ 1 ≤ L.1.length ∧ wL L ∧ xL 75 p.2 L))) := by
  have h60 := wt.1
  unfold f_Tape_readLine
  rw [if_pos fh_ok75, fm_nm]
  unfold f_Line_empty
  rw [if_pos fh_ok75, fm_nmE, fm_nmE, fm_bs, fm_bind]
  generalize hμ1 : fw_wr (fw_wr (fw_wr μ 63 2 0) 75 1 0) 75 2 0 = μ1
  have F1 : fm_F [63, 75, 76] μ μ1 := by rw [← hμ1]; exact ((fm_F.rf.wr).wr).wr
  have Z1 : ∀ j, j ≠ 2 → μ1.1 63 j = μ.1 63 j := fun j hj => by rw [← hμ1, fm_wrn (by decide), fm_wrn (by decide), fm_wr, if_neg (fun z => hj z.2)]
  have x1 : xT μ1 t 0 := ⟨⟨(Z1 1 (by decide)).trans h.1, fun i hi => by rw [F1.at 64]; exact h.2 i hi⟩, by rw [← hμ1, fm_wrn (by decide), fm_wrn (by decide), fm_wr, if_pos ⟨rfl, rfl⟩]; rfl⟩
  have l1 : xLL μ1 [] 0 := ⟨by rw [← hμ1, fm_wr, if_neg (by decide), fm_wr, if_pos ⟨rfl, rfl⟩]; rfl, fun i hi => absurd hi (Nat.not_lt_zero _), by rw [← hμ1, fm_wr, if_pos ⟨rfl, rfl⟩]; rfl⟩
  generalize hr0 : ppl t (t.length + 1) 0 ([], 0) = r0
  refine fm_wh (P := fun m st => ∃ (a i k : Nat) (L : fm_Li), i ≤ a ∧ a ≤ t.length ∧ m = t.length + 1 - a ∧ t.length < k + a ∧ st.2.1 = nI i ∧ fm_F [63, 75, 76] μ st.2.2 ∧ (∀ j, j ≠ 2 → st.2.2.1 63 j = μ.1 63 j) ∧ xT st.2.2 t a ∧ (∀ i, i < L.1.length → L.1.getD i 0 < 12) ∧ ((st.1 = 1 ∧ ppl t k a L = r0 ∧ L.1.length < 10 ∧ ∃ g, g < 2 ^ (L.1.length - 1) ∧ xLL st.2.2 L.1 (2 ^ (L.1.length - 1) - (g + 1)) ∧ ((L.1.length = 0 ∧ L.2 = 0) ∨ (1 ≤ L.1.length ∧ L.2 = g ||| 2 ^ (L.1.length - 1)))) ∨ (st.1 = 0 ∧ pmd t (ppl t k) a L = r0 ∧ 1 ≤ L.1.length ∧ L.1.length ≤ 10 ∧ L.2 < 2 ^ (L.1.length - 1) ∧ xLL st.2.2 L.1 (2 ^ (L.1.length - 1) - (L.2 + 1))))) ?_ (i := t.length + 1) ⟨0, 0, t.length + 1, ([], 0), Nat.le_refl _, Nat.zero_le _, rfl, by omega, rfl, F1, Z1, x1, fun i hi => absurd hi (Nat.not_lt_zero _), Or.inl ⟨rfl, hr0, by show 0 < 10; omega, 0, by show 0 < 1; omega, l1, Or.inl ⟨rfl, rfl⟩⟩⟩ (by omega)
  rintro m ⟨fl, ii, ν⟩ ⟨a, i, k, L, hia, ha, rfl, hk, e1, F, Z, xt, l12, md⟩
  simp only at e1 F Z xt md
  subst e1
  unfold f_Tape_readLine_L13
  try dsimp only
  rw [(Z 1 (by decide)).trans h.1, if_neg (nI_nlt (show i ≤ t.length by omega) (by omega)), fm_bind]
  refine (fx_next xt wt ha).mono ?_
  rintro ⟨sg, ξ⟩ ⟨es, G, GZ, xt2⟩
  simp only at es G GZ xt2
  subst es
  obtain ⟨k1, k2, k3⟩ := sk_p ha
  have FX : fm_F [63, 75, 76] μ ξ := F.tr G.up
  have ZX : ∀ j, j ≠ 2 → ξ.1 63 j = μ.1 63 j := fun j hj => (GZ j hj).trans (Z j hj)
  have lkeep : ∀ {b}, xLL ν L.1 b → xLL ξ L.1 b := fun hx => by unfold xLL at *; rw [G.at 75, G.at 76]; exact hx
  have flt : (f_Tape_fault ξ) = some (-20 - nI (sk t a)) := by unfold f_Tape_fault; rw [xt2.2]
  -- a fault here
  have bad : r0 = .inl (sk t a) → fm_T ((f_Tape_fault ξ).bind fun (p38 : Int32) => (some (.inr (.inr (p38, ξ))) : Option ((Int32 × Int32 × fw_M) ⊕ (fw_M ⊕ (Int32 × fw_M))))) (fm_K (fun st => ∃ j, j < t.length + 1 - a ∧ ∃ (a i k : Nat) (L : fm_Li), i ≤ a ∧ a ≤ t.length ∧ j = t.length + 1 - a ∧ t.length < k + a ∧ st.2.1 = nI i ∧ fm_F [63, 75, 76] μ st.2.2 ∧ (∀ j, j ≠ 2 → st.2.2.1 63 j = μ.1 63 j) ∧ xT st.2.2 t a ∧ (∀ i, i < L.1.length → L.1.getD i 0 < 12) ∧ ((st.1 = 1 ∧ ppl t k a L = r0 ∧ L.1.length < 10 ∧ ∃ g, g < 2 ^ (L.1.length - 1) ∧ xLL st.2.2 L.1 (2 ^ (L.1.length - 1) - (g + 1)) ∧ ((L.1.length = 0 ∧ L.2 = 0) ∨ (1 ≤ L.1.length ∧ L.2 = g ||| 2 ^ (L.1.length - 1)))) ∨ (st.1 = 0 ∧ pmd t (ppl t k) a L = r0 ∧ 1 ≤ L.1.length ∧ L.1.length ≤ 10 ∧ L.2 < 2 ^ (L.1.length - 1) ∧ xLL st.2.2 L.1 (2 ^ (L.1.length - 1) - (L.2 + 1))))) (fun q => fm_T (match q with | .inl e13x => (f_Tape_fault e13x).bind fun (p127 : Int32) => some (p127, e13x) | .inr r13 => some r13) (fun p => fm_F [63, 75, 76] μ p.2 ∧ (∀ j, j ≠ 2 → p.2.1 63 j = μ.1 63 j) ∧ ((∃ e, r0 = .inl e ∧ e ≤ t.length ∧ p.1 = -20 - nI e) ∨ (∃ L, r0 = .inr L ∧ p.1 = nI L.1.length ∧ 1 ≤ L.1.length ∧ wL L ∧ xL 75 p.2 L))))) := fun hb => by
    rw [flt, fm_bs, fm_some, fm_Kr, fm_some]
    exact ⟨FX, ZX, Or.inl ⟨_, hb, k2, rfl⟩⟩
  -- a letter here
  have let1 : ∀ (G2 b2 k' : Nat), sk t a < t.length → isLe (fm_bb t (sk t a)) → L.1.length < 10 → t.length < k' + (sk t a + 1) → pmd t (ppl t k') (sk t a + 1) (L.1 ++ [fm_bb t (sk t a) - 97], G2) = r0 → G2 < 2 ^ L.1.length → b2 < 1024 → xLL ξ L.1 b2 → (if 1 ≤ L.1.length ∧ fl = 0 then b2 ||| 2 ^ (L.1.length - 1) else b2) = 2 ^ L.1.length - (G2 + 1) → fm_T ((f_Line_add 75 (nI (fm_bb t (sk t a)) - 97) fl ξ).bind fun (p81 : fw_M) => fw_nm (fw_wr p81 63 2 ((p81.1 63 2) + 1)) fun (μ117 : fw_M) => fw_nm (nI i + 1) fun (v120 : Int32) => (some (.inl (0, v120, μ117)) : Option ((Int32 × Int32 × fw_M) ⊕ (fw_M ⊕ (Int32 × fw_M))))) (fm_K (fun st => ∃ j, j < t.length + 1 - a ∧ ∃ (a i k : Nat) (L : fm_Li), i ≤ a ∧ a ≤ t.length ∧ j = t.length + 1 - a ∧ t.length < k + a ∧ st.2.1 = nI i ∧ fm_F [63, 75, 76] μ st.2.2 ∧ (∀ j, j ≠ 2 → st.2.2.1 63 j = μ.1 63 j) ∧ xT st.2.2 t a ∧ (∀ i, i < L.1.length → L.1.getD i 0 < 12) ∧ ((st.1 = 1 ∧ ppl t k a L = r0 ∧ L.1.length < 10 ∧ ∃ g, g < 2 ^ (L.1.length - 1) ∧ xLL st.2.2 L.1 (2 ^ (L.1.length - 1) - (g + 1)) ∧ ((L.1.length = 0 ∧ L.2 = 0) ∨ (1 ≤ L.1.length ∧ L.2 = g ||| 2 ^ (L.1.length - 1)))) ∨ (st.1 = 0 ∧ pmd t (ppl t k) a L = r0 ∧ 1 ≤ L.1.length ∧ L.1.length ≤ 10 ∧ L.2 < 2 ^ (L.1.length - 1) ∧ xLL st.2.2 L.1 (2 ^ (L.1.length - 1) - (L.2 + 1))))) (fun q => fm_T (match q with | .inl e13x => (f_Tape_fault e13x).bind fun (p127 : Int32) => some (p127, e13x) | .inr r13 => some r13) (fun p => fm_F [63, 75, 76] μ p.2 ∧ (∀ j, j ≠ 2 → p.2.1 63 j = μ.1 63 j) ∧ ((∃ e, r0 = .inl e ∧ e ≤ t.length ∧ p.1 = -20 - nI e) ∨ (∃ L, r0 = .inr L ∧ p.1 = nI L.1.length ∧ 1 ≤ L.1.length ∧ wL L ∧ xL 75 p.2 L))))) := by
    intro G2 b2 k' q1 q2 q3 q4 q5 q6 q7 q8 q9
    rw [show (97 : Int32) = nI 97 from rfl, pk_sub q2.1, fm_bind]
    refine (fx_ladd (c := fm_bb t (sk t a) - 97) (fl := fl) q8 q3 q7).mono ?_
    intro ζ ⟨H, hx⟩
    rw [q9] at hx
    rw [fm_nm, fm_nm, fm_some, fm_Kl]
    refine ⟨t.length + 1 - (sk t a + 1), by omega, sk t a + 1, i + 1, k', (L.1 ++ [fm_bb t (sk t a) - 97], G2), by omega, by omega, rfl, q4, nI_1 i, ((FX.tr H.up)).wr, fun j hj => by rw [fm_wr, if_neg (fun z => hj z.2), H.at 63]; exact ZX j hj, ⟨⟨by rw [fm_wr, if_neg (by decide), H.at 63]; exact xt2.1.1, fun x hx => by rw [fm_wrn (by decide), H.at 64]; exact xt2.1.2 x hx⟩, by rw [fm_wr, if_pos ⟨rfl, rfl⟩, H.at 63, xt2.2, nI_1]⟩, fun x hx => ?_, Or.inr ⟨rfl, q5, ?_, ?_, ?_, ?_⟩⟩
    · rw [List.length_append, List.length_singleton] at hx
      by_cases e : x < L.1.length
      · rw [show (L.1 ++ [fm_bb t (sk t a) - 97]).getD x 0 = L.1.getD x 0 from fm_gDa e]; exact l12 x e
      · rw [show x = L.1.length by omega, show (L.1 ++ [fm_bb t (sk t a) - 97]).getD L.1.length 0 = fm_bb t (sk t a) - 97 from fm_gDl]; have := q2.2; omega
    · rw [List.length_append, List.length_singleton]; omega
    · rw [List.length_append, List.length_singleton]; omega
    · rw [List.length_append, List.length_singleton]; exact q6
    · unfold xLL at hx ⊢
      rw [fm_wr, if_neg (by decide), fm_wrn (by decide), fm_wr, if_neg (by decide)]
      rw [show (L.1 ++ [fm_bb t (sk t a) - 97], G2).1.length - 1 = L.1.length by rw [List.length_append, List.length_singleton]; omega]
      exact hx
  by_cases en : sk t a < t.length
  · obtain ⟨c1, c2⟩ := wt.2 (sk t a) en
    simp only [en, if_true]
    rw [if_neg (show ¬ nI (fm_bb t (sk t a)) = -1 from fm_nne (by omega)), fh_97 (by omega), fm_bs]
    have k95 : nI (fm_bb t (sk t a)) = 95 ↔ fm_bb t (sk t a) = 95 := nI_eq (b := 95) (by omega) (by omega)
    rcases md with ⟨m1, m2, m3, g, g1, g2, g3⟩ | ⟨m1, m2, m3, m4, m5, m6⟩
    · subst m1
      have sz := (lkeep g2).1
      rw [sz, if_pos (fh_lt (c := 10) (b := 10) rfl m3 (by omega))]
      obtain ⟨k', rfl⟩ : ∃ k', k = k' + 1 := ⟨k - 1, by omega⟩
      rw [ppl] at m2
      by_cases le : isLe (fm_bb t (sk t a))
      · rw [if_pos ⟨en, le⟩] at m2
        rw [if_pos le, if_neg fm_n10]
        have p512 : 2 ^ (L.1.length - 1) ≤ 512 := fm_pow8 (n := 9) (by omega)
        refine let1 L.2 (2 ^ (L.1.length - 1) - (g + 1)) k' en le m3 (by omega) m2 ?_ (by omega) (lkeep g2) ?_
        · rcases g3 with ⟨z1, z2⟩ | ⟨z1, z2⟩
          · rw [z2]; exact Nat.two_pow_pos _
          · rw [z2]
            have := (be_gap g1).2
            rw [show L.1.length - 1 + 1 = L.1.length by omega] at this
            exact this
        · rw [if_neg (fun z => absurd z.2 fm_n10)]
          rcases g3 with ⟨z1, z2⟩ | ⟨z1, z2⟩
          · have g0 : g = 0 := by
              rw [z1] at g1
              have : (2 : Nat) ^ (0 - 1) = 1 := rfl
              omega
            rw [z2, z1, g0]
          · rw [z2]
            have := (be_gap g1).1
            rw [show L.1.length - 1 + 1 = L.1.length by omega] at this
            exact this.symm
      · rw [if_neg (fun z => le z.2)] at m2
        rw [if_neg le, if_pos rfl]
        by_cases u : fm_bb t (sk t a) = 95
        · rw [if_pos (k95.mpr u), if_neg fm_n10]
          exact bad m2.symm
        · rw [if_neg (fun z => u (k95.mp z))]
          exact bad m2.symm
    · subst m1
      have sz := (lkeep m6).1
      unfold pmd at m2
      rw [if_pos en] at m2
      rw [sz]
      by_cases n10 : L.1.length < 10
      · rw [if_pos n10] at m2
        rw [if_pos (fh_lt (c := 10) (b := 10) rfl n10 (by omega))]
        by_cases u : fm_bb t (sk t a) = 95
        · rw [if_pos u] at m2
          have nle : ¬ isLe (fm_bb t (sk t a)) := fun z => by have := z.1; omega
          rw [if_neg nle, if_pos rfl, if_pos (k95.mpr u), if_pos rfl, fm_nm, fm_nm, fm_some, fm_Kl]
          refine ⟨t.length + 1 - (sk t a + 1), by omega, sk t a + 1, i + 1, k, (L.1, L.2 ||| 2 ^ (L.1.length - 1)), by omega, by omega, rfl, by omega, nI_1 i, FX.wr, fun j hj => by rw [fm_wr, if_neg (fun z => hj z.2)]; exact ZX j hj, ⟨⟨by rw [fm_wr, if_neg (by decide)]; exact xt2.1.1, fun x hx => by rw [fm_wrn (by decide)]; exact xt2.1.2 x hx⟩, by rw [fm_wr, if_pos ⟨rfl, rfl⟩, xt2.2, nI_1]⟩, l12, Or.inl ⟨rfl, m2, n10, L.2, m5, ?_, Or.inr ⟨m3, rfl⟩⟩⟩
          have := lkeep m6
          unfold xLL at this ⊢
          rw [fm_wrn (by decide), fm_wrn (by decide)]
          exact this
        · rw [if_neg u] at m2
          obtain ⟨k', rfl⟩ : ∃ k', k = k' + 1 := ⟨k - 1, by omega⟩
          rw [ppl, sk_s ha] at m2
          by_cases le : isLe (fm_bb t (sk t a))
          · rw [if_pos ⟨en, le⟩] at m2
            rw [if_pos le, if_neg fm_n10]
            have p512 : 2 ^ (L.1.length - 1) ≤ 512 := fm_pow8 (n := 9) (by omega)
            refine let1 L.2 (2 ^ (L.1.length - 1) - (L.2 + 1)) k' en le n10 (by omega) m2 (Nat.lt_of_lt_of_le m5 (fm_pow8 (by omega))) (by omega) (lkeep m6) ?_
            rw [if_pos ⟨m3, rfl⟩]
            have := be_add m5
            rw [show L.1.length - 1 + 1 = L.1.length by omega] at this
            exact this
          · rw [if_neg (fun z => le z.2)] at m2
            rw [if_neg le, if_pos rfl, if_neg (fun z => u (k95.mp z))]
            exact bad m2.symm
      · rw [if_neg n10] at m2
        rw [if_neg (show ¬ nI L.1.length < 10 from fun z => n10 ((nI_ltI (b := 10) (by omega) (by omega)).mp z))]
        exact bad m2.symm
  · simp only [en, if_false]
    rw [if_pos trivial]
    rcases md with ⟨m1, m2, m3, g, g1, g2, g3⟩ | ⟨m1, m2, m3, m4, m5, m6⟩
    · subst m1
      obtain ⟨k', rfl⟩ : ∃ k', k = k' + 1 := ⟨k - 1, by omega⟩
      rw [ppl, if_neg (fun z => en z.1)] at m2
      rw [if_neg fm_n10]
      exact bad m2.symm
    · subst m1
      unfold pmd at m2
      rw [if_neg en] at m2
      rw [if_pos rfl, fm_some, fm_Kr, fm_some, (lkeep m6).1]
      exact ⟨FX, ZX, Or.inr ⟨L, m2.symm, rfl, m3, ⟨m4, l12, m5⟩, ⟨(lkeep m6).1, (lkeep m6).2.1⟩, (lkeep m6).2.2⟩⟩
