/-! small methods, closed -/
theorem fh_bz {c : Prop} [Decidable c] : fw_bz (if c then 1 else 0) = some (if c then 1 else 0) := by
  by_cases h : c
  · simp [h]; rfl
  · simp [h]; rfl
theorem fh_isLetter (a : Int32) : f_X_isLetter a = some (if 0 ≤ a ∧ a < 12 then 1 else 0) := by
  unfold f_X_isLetter
  by_cases h : a < 0
  · have h1 : ¬ (0 ≤ a ∧ a < 12) := fun q => Int32.not_le.mpr h q.1
    rw [if_pos h, if_neg h1]; rfl
  · have h0 : 0 ≤ a := Int32.not_lt.mp h
    by_cases h2 : 12 ≤ a
    · have h1 : ¬ (0 ≤ a ∧ a < 12) := fun q => Int32.not_le.mpr q.2 h2
      rw [if_neg h, if_pos h2, if_neg h1]; rfl
    · rw [if_neg h, if_neg h2, if_pos ⟨h0, Int32.not_le.mp h2⟩]; rfl
theorem fh_i64le (a b : Int32) : a.toInt64 ≤ b.toInt64 ↔ a ≤ b := by
  rw [Int64.le_iff_toInt_le, Int32.le_iff_toInt_le, Int32.toInt_toInt64, Int32.toInt_toInt64]
theorem fh_i64lt (a b : Int32) : a.toInt64 < b.toInt64 ↔ a < b := by
  rw [Int64.lt_iff_toInt_lt, Int32.lt_iff_toInt_lt, Int32.toInt_toInt64, Int32.toInt_toInt64]
theorem fh_in64 (a b c : Int64) : f_M_in a b c = some (if b ≤ a ∧ a ≤ c then 1 else 0) := by
  unfold f_M_in
  simp only [lg_cmp_lt, lg_cmp_gt]
  by_cases h : a < b
  · have h1 : ¬ (b ≤ a ∧ a ≤ c) := fun q => Int64.not_le.mpr h q.1
    rw [if_pos h, if_neg h1]; rfl
  · have h0 : b ≤ a := Int64.not_lt.mp h
    by_cases h2 : c < a
    · have h1 : ¬ (b ≤ a ∧ a ≤ c) := fun q => Int64.not_le.mpr h2 q.2
      rw [if_neg h, if_pos h2, if_neg h1]; rfl
    · rw [if_neg h, if_neg h2, if_pos ⟨h0, Int64.not_lt.mp h2⟩]; rfl
theorem fh_in {a lo hi : Int32} {b c : Int64} (hb : b = lo.toInt64) (hc : c = hi.toInt64) : f_M_in a.toInt64 b c = some (if lo ≤ a ∧ a ≤ hi then 1 else 0) := by
  subst hb hc
  rw [fh_in64]
  simp only [fh_i64le]
theorem fm_I.up {n : Nat} {μx μm : fw_M} (h : fm_I n μx μm) : fm_I (n + 1) μx μm := ⟨h.1, h.2.1, h.2.2.1, h.2.2.2.1, h.2.2.2.2.up (by omega)⟩
/-- an argument is within a range, or not -/
theorem fh_cs {a : Int32} {n : Nat} (hn : n < 2147483648) (h : 0 ≤ a ∧ a < nI n) : ∃ j, j < n ∧ a = nI j := by
  obtain ⟨j, hj, rfl⟩ := nI_of (x := a) (Int32.not_lt.mpr h.1)
  exact ⟨j, (nI_ltI hj hn).mp h.2, rfl⟩
theorem fh_csI {j n : Nat} (hn : n < 2147483648) (h : j < n) : 0 ≤ nI j ∧ nI j < nI n := ⟨nI_pos' (by omega), (nI_ltI (by omega) hn).mpr h⟩
theorem fh_cl {a lo hi : Int32} {l n : Nat} (hl : lo = nI l) (hh : hi = nI n) (hn : n < 2147483648) (hln : l ≤ n) (h : lo ≤ a ∧ a ≤ hi) : ∃ j, l ≤ j ∧ j ≤ n ∧ a = nI j := by
  subst hl hh
  have h0 : ¬ a < 0 := by
    intro q
    have e0 : (0 : Int32) ≤ nI l := nI_pos' (by omega)
    exact Int32.not_le.mpr q (Int32.le_trans e0 h.1)
  obtain ⟨j, hj, rfl⟩ := nI_of (x := a) h0
  exact ⟨j, (nI_leI (by omega) hj).mp h.1, (nI_leI hj hn).mp h.2, rfl⟩
theorem fh_ltD {a : Int32} {n : Nat} (hn : n < 2147483648) : a ≤ nD n ↔ a < nI n := by
  cases n with
  | zero =>
    rw [nD_0]
    show a ≤ -1 ↔ a < 0
    rw [Int32.le_iff_toInt_le, Int32.lt_iff_toInt_lt, show (-1 : Int32).toInt = -1 from rfl, show (0 : Int32).toInt = 0 from rfl]
    omega
  | succ n =>
    rw [nD_s, Int32.le_iff_toInt_le, Int32.lt_iff_toInt_lt, nI_toInt (by omega), nI_toInt (by omega)]
    omega
theorem fh_has (a : Int32) (μ : fw_M) : f_Case_has_2 a μ = some (if 0 ≤ a ∧ a < μ.1 2 3 then 1 else 0) := by
  unfold f_Case_has_2
  by_cases h : a < 0
  · have h1 : ¬ (0 ≤ a ∧ a < μ.1 2 3) := fun q => Int32.not_le.mpr h q.1
    rw [if_pos h, if_neg h1]; rfl
  · have h0 : 0 ≤ a := Int32.not_lt.mp h
    by_cases h2 : μ.1 2 3 ≤ a
    · have h1 : ¬ (0 ≤ a ∧ a < μ.1 2 3) := fun q => Int32.not_le.mpr q.2 h2
      rw [if_neg h, if_pos h2, if_neg h1]; rfl
    · rw [if_neg h, if_neg h2, if_pos ⟨h0, Int32.not_le.mp h2⟩]; rfl
theorem fh_isOne {a : Int32} {μ : fw_M} {n : Nat} (h : μ.1 0 0 = nI n) (hn : n < 2147483648) : f_M_isOne a μ = some (if 0 ≤ a ∧ a < nI n then 1 else 0) := by
  unfold f_M_isOne
  rw [h, fh_in (b := 0) (c := (nI n - 1).toInt64) (lo := 0) (hi := nD n) rfl rfl]
  simp only [fh_ltD hn, fm_bs, fh_bz]
theorem fh_isLetterM (a : Int32) : f_M_isLetter a = some (if 0 ≤ a ∧ a < 12 then 1 else 0) := by
  unfold f_M_isLetter
  rw [fh_in (b := 0) (c := 11) (lo := 0) (hi := nD 12) rfl rfl]
  simp only [fh_ltD (n := 12) (by omega), fm_bs, fh_bz]
  rfl
/-- what may be cast -/
def fh_ty (a b c : Int32) : Prop := (0 ≤ b ∧ b < 12) ∧ ((a = 0 ∧ c = 0) ∨ (a = 1 ∧ (0 ≤ c ∧ c < 12) ∧ c ≠ b) ∨ (a = 2 ∧ (0 ≤ c ∧ c < 12)) ∨ (a = 3 ∧ (1 ≤ c ∧ c ≤ 9)))
theorem fh_ty_nat {a b c : Int32} (h : fh_ty a b c) : ∃ t : fm_Ty, fm_ok t ∧ a = nI t.1 ∧ b = nI t.2.1 ∧ c = nI t.2.2 := by
  obtain ⟨hb, h⟩ := h
  obtain ⟨j, hj, rfl⟩ := fh_cs (n := 12) (by omega) hb
  rcases h with ⟨rfl, rfl⟩ | ⟨rfl, hc, hne⟩ | ⟨rfl, hc⟩ | ⟨rfl, hc⟩
  · exact ⟨(0, j, 0), ⟨hj, Or.inl ⟨rfl, rfl⟩⟩, rfl, rfl, rfl⟩
  · obtain ⟨k, hk, rfl⟩ := fh_cs (n := 12) (by omega) hc
    exact ⟨(1, j, k), ⟨hj, Or.inr (Or.inl ⟨rfl, hk, fun e => hne (by rw [show k = j from e])⟩)⟩, rfl, rfl, rfl⟩
  · obtain ⟨k, hk, rfl⟩ := fh_cs (n := 12) (by omega) hc
    exact ⟨(2, j, k), ⟨hj, Or.inr (Or.inr (Or.inl ⟨rfl, hk⟩))⟩, rfl, rfl, rfl⟩
  · obtain ⟨k, hk1, hk2, rfl⟩ := fh_cl (l := 1) (n := 9) rfl rfl (by omega) (by omega) hc
    exact ⟨(3, j, k), ⟨hj, Or.inr (Or.inr (Or.inr ⟨rfl, hk1, hk2⟩))⟩, rfl, rfl, rfl⟩
theorem fh_nat_ty {t : fm_Ty} (h : fm_ok t) : fh_ty (nI t.1) (nI t.2.1) (nI t.2.2) := by
  obtain ⟨hb, h⟩ := h
  refine ⟨fh_csI (n := 12) (by omega) hb, ?_⟩
  rcases h with ⟨h1, h2⟩ | ⟨h1, h2, h3⟩ | ⟨h1, h2⟩ | ⟨h1, h2, h3⟩
  · left; rw [h1, h2]; exact ⟨rfl, rfl⟩
  · right; left; rw [h1]; exact ⟨rfl, fh_csI (n := 12) (by omega) h2, fun e => h3 ((nI_eq (by omega) (by omega)).mp e)⟩
  · right; right; left; rw [h1]; exact ⟨rfl, fh_csI (n := 12) (by omega) h2⟩
  · right; right; right; rw [h1]; exact ⟨rfl, (nI_leI (a := 1) (by omega) (by omega)).mpr h2, (nI_leI (b := 9) (by omega) (by omega)).mpr h3⟩
theorem fh_fits1 {a b c : Int32} (h : fh_ty a b c) : f_Case_fits a b c = some 1 := by
  obtain ⟨hb, h⟩ := h
  unfold f_Case_fits
  rw [fh_isLetter, if_pos hb, fm_bs, if_neg (by decide)]
  rcases h with ⟨rfl, rfl⟩ | ⟨rfl, hc, hne⟩ | ⟨rfl, hc⟩ | ⟨rfl, hc⟩
  · rfl
  · rw [if_neg (by decide), if_pos rfl, fh_isLetter, if_pos hc, fm_bs, if_neg (by decide), if_neg hne]; rfl
  · rw [if_neg (by decide), if_neg (by decide), if_pos rfl, fh_isLetter, if_pos hc]; rfl
  · rw [if_neg (by decide), if_neg (by decide), if_neg (by decide), if_pos rfl, if_neg (Int32.not_lt.mpr hc.1), if_neg (Int32.not_lt.mpr hc.2)]; rfl
theorem fh_fits0 {a b c : Int32} (h : ¬ fh_ty a b c) : f_Case_fits a b c = some 0 := by
  unfold f_Case_fits
  rw [fh_isLetter, fm_bs]
  by_cases hb : 0 ≤ b ∧ b < 12
  · rw [if_pos hb, if_neg (by decide)]
    by_cases h0 : a = 0
    · rw [if_pos h0]
      have : ¬ c = 0 := fun e => h ⟨hb, Or.inl ⟨h0, e⟩⟩
      rw [if_neg this]; rfl
    rw [if_neg h0]
    by_cases h1 : a = 1
    · rw [if_pos h1, fh_isLetter, fm_bs]
      by_cases hc : 0 ≤ c ∧ c < 12
      · have : c = b := by
          by_cases e : c = b
          · exact e
          · exact absurd ⟨hb, Or.inr (Or.inl ⟨h1, hc, e⟩)⟩ h
        rw [if_pos hc, if_neg (by decide), if_pos this]; rfl
      · rw [if_neg hc, if_pos rfl]; rfl
    rw [if_neg h1]
    by_cases h2 : a = 2
    · rw [if_pos h2, fh_isLetter, fm_bs]
      have hc : ¬ (0 ≤ c ∧ c < 12) := fun e => h ⟨hb, Or.inr (Or.inr (Or.inl ⟨h2, e⟩))⟩
      rw [if_neg hc]; rfl
    rw [if_neg h2]
    by_cases h3 : a = 3
    · rw [if_pos h3]
      have hc : ¬ (1 ≤ c ∧ c ≤ 9) := fun e => h ⟨hb, Or.inr (Or.inr (Or.inr ⟨h3, e⟩))⟩
      by_cases c1 : c < 1
      · rw [if_pos c1]; rfl
      · have c2 : 9 < c := Int32.not_le.mp (fun e => hc ⟨Int32.not_lt.mp c1, e⟩)
        rw [if_neg c1, if_pos c2]; rfl
    rw [if_neg h3]
  · rw [if_neg hb, if_pos rfl]
theorem fh_type1 {a b c : Int32} (h : fh_ty a b c) : f_M_isType a b c = some 1 := by
  obtain ⟨hb, h⟩ := h
  unfold f_M_isType
  rcases h with ⟨rfl, rfl⟩ | ⟨rfl, hc, hne⟩ | ⟨rfl, hc⟩ | ⟨rfl, hc⟩
  · rw [if_pos rfl, if_pos rfl, fm_bs, if_neg (by decide), fh_isLetterM, if_pos hb]; rfl
  · rw [if_neg (by decide), if_pos rfl, fh_isLetterM, if_pos hc, fm_bs, if_neg (by decide), if_neg hne, fm_bs, if_neg (by decide), fh_isLetterM, if_pos hb]; rfl
  · rw [if_neg (by decide), if_neg (by decide), if_pos rfl, fh_isLetterM, if_pos hc, fm_bs, fm_bs, if_neg (by decide), fh_isLetterM, if_pos hb]; rfl
  · rw [if_neg (by decide), if_neg (by decide), if_neg (by decide), if_pos rfl, fh_in (b := 1) (c := 9) (lo := 1) (hi := 9) rfl rfl, if_pos hc, fm_bs, if_neg (by decide), fm_bs, if_neg (by decide), fh_isLetterM, if_pos hb]; rfl
theorem fh_type0 {a b c : Int32} (h : ¬ fh_ty a b c) : f_M_isType a b c = some 0 := by
  unfold f_M_isType
  have key : ∀ x : Option Int32, (x = some 0 ∨ (x = some 1 ∧ ¬ (0 ≤ b ∧ b < 12))) → (x.bind fun (j1 : Int32) => Option.bind (if j1 = 0 then some 0 else (f_M_isLetter b).bind fun (p81 : Int32) => if p81 = 0 then some 0 else some 1) fun (j77 : Int32) => (fw_bz j77).bind fun b92 => some b92) = some 0 := by
    intro x hx
    rcases hx with rfl | ⟨rfl, hb⟩
    · rfl
    · rw [fm_bs, if_neg (by decide), fh_isLetterM, if_neg hb]; rfl
  refine key _ ?_
  by_cases hb : 0 ≤ b ∧ b < 12
  · left
    by_cases h0 : a = 0
    · rw [if_pos h0, if_neg (fun e => h ⟨hb, Or.inl ⟨h0, e⟩⟩)]
    rw [if_neg h0]
    by_cases h1 : a = 1
    · rw [if_pos h1, fh_isLetterM, fm_bs]
      by_cases hc : 0 ≤ c ∧ c < 12
      · have : c = b := by
          by_cases e : c = b
          · exact e
          · exact absurd ⟨hb, Or.inr (Or.inl ⟨h1, hc, e⟩)⟩ h
        rw [if_pos hc, if_neg (by decide), if_pos this]
      · rw [if_neg hc, if_pos rfl]
    rw [if_neg h1]
    by_cases h2 : a = 2
    · rw [if_pos h2, fh_isLetterM, fm_bs, if_neg (fun e => h ⟨hb, Or.inr (Or.inr (Or.inl ⟨h2, e⟩))⟩)]
    rw [if_neg h2]
    by_cases h3 : a = 3
    · rw [if_pos h3, fh_in (b := 1) (c := 9) (lo := 1) (hi := 9) rfl rfl, fm_bs, if_neg (fun e => h ⟨hb, Or.inr (Or.inr (Or.inr ⟨h3, e⟩))⟩), if_pos rfl]
    rw [if_neg h3]
  · have : ∀ x : Option Int32, (x = some 0 ∨ x = some 1) → (x = some 0 ∨ (x = some 1 ∧ ¬ (0 ≤ b ∧ b < 12))) := fun x hx => hx.elim Or.inl (fun e => Or.inr ⟨e, hb⟩)
    apply this
    by_cases h0 : a = 0
    · rw [if_pos h0]; split
      · exact Or.inr rfl
      · exact Or.inl rfl
    rw [if_neg h0]
    by_cases h1 : a = 1
    · rw [if_pos h1, fh_isLetterM, fm_bs]
      by_cases hc : 0 ≤ c ∧ c < 12
      · rw [if_pos hc, if_neg (by decide)]
        by_cases e : c = b
        · rw [if_pos e]; exact Or.inl rfl
        · rw [if_neg e]; exact Or.inr rfl
      · rw [if_neg hc]; exact Or.inl rfl
    rw [if_neg h1]
    by_cases h2 : a = 2
    · rw [if_pos h2, fh_isLetterM, fm_bs]
      by_cases hc : 0 ≤ c ∧ c < 12
      · rw [if_pos hc]; exact Or.inr rfl
      · rw [if_neg hc]; exact Or.inl rfl
    rw [if_neg h2]
    by_cases h3 : a = 3
    · rw [if_pos h3, fh_in (b := 1) (c := 9) (lo := 1) (hi := 9) rfl rfl, fm_bs]
      by_cases hc : 1 ≤ c ∧ c ≤ 9
      · rw [if_pos hc]; exact Or.inr rfl
      · rw [if_neg hc]; exact Or.inl rfl
    rw [if_neg h3]
    exact Or.inl rfl
/-! filling a row -/
theorem fh_fill {k n : Nat} {a : Int32} {μ : fw_M} (hk : fw_X[k]? = some (.inr (0, n, []))) (hn : n < 100000) : fm_T (f_Arrays_fill k n a μ) (fun ν => fm_F [k] μ ν ∧ ν.2 = μ.2 ∧ ∀ j, j < n → ν.1 k j = a) := by
  unfold f_Arrays_fill
  rw [if_pos hk, fm_nm, fm_bind]
  refine fm_up (P := fun i s => s.1 = nI i ∧ fm_F [k] μ s.2 ∧ s.2.2 = μ.2 ∧ ∀ j, j < i → s.2.1 k j = a) n ?_ ?_ 0 (Nat.zero_le _) ⟨rfl, fm_F.rf, rfl, fun j hj => absurd hj (Nat.not_lt_zero _)⟩ (by omega)
  · rintro i ⟨x, ν⟩ hi ⟨h1, h2, h3, h4⟩
    simp only at h1 h2 h3 h4
    subst h1
    unfold f_Arrays_fill_L5
    simp only [nI_ge hi (by omega), if_false]
    rw [fm_si hi (by omega), fm_bs, fm_nm, fm_some, fm_Kl]
    refine ⟨nI_1 i, h2.wr (by simp), h3, fun j hj => ?_⟩
    simp only [fm_wr]
    by_cases e : j = i
    · simp [e]
    · simp [e, h4 j (by omega)]
  · rintro ⟨x, ν⟩ ⟨h1, h2, h3, h4⟩
    simp only at h1 h2 h3 h4
    subst h1
    simp only [f_Arrays_fill_L5]
    rw [if_pos (nI_le (a := n) (b := n) (Nat.le_refl _) (by omega)), fm_some, fm_Kr, fm_some]
    exact ⟨h2, h3, h4⟩
theorem fh_forget {μ : fw_M} : fm_T (f_X_forgetPulls μ) (fun ν => fm_F [81] μ ν ∧ ∀ j, j < 9 → ν.1 81 j = 0) := by
  unfold f_X_forgetPulls
  rw [fm_bind]
  refine (fh_fill (k := 81) (n := 9) rfl (by omega)).mono ?_
  intro ν h
  rw [fm_some]
  exact ⟨h.1, h.2.2⟩
