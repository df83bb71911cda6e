/-! the class's rows of bits -/
def xbv (v : Int64) (b : Nat) : Bool := v.toBitVec.getLsbD b
theorem xbv_or (a b : Int64) (i : Nat) : xbv (a ||| b) i = (xbv a i || xbv b i) := by
  show (a.toBitVec ||| b.toBitVec).getLsbD i = _
  rw [BitVec.getLsbD_or]
  rfl
theorem xbv_and (a b : Int64) (i : Nat) : xbv (a &&& b) i = (xbv a i && xbv b i) := by
  show (a.toBitVec &&& b.toBitVec).getLsbD i = _
  rw [BitVec.getLsbD_and]
  rfl
theorem xbv_m1 : ∀ b, b < 64 → xbv (-1) b = true := by decide +kernel
theorem xbv_0 (b : Nat) : xbv 0 b = false := by
  show (0#64).getLsbD b = false
  simp
theorem fw_s2b : ∀ t, t < 6 → ∀ c, c < 64 → xbv (fw_s2 t) c = !(c.testBit t) := by decide +kernel
theorem xbv_sh : ∀ t, t < 6 → ((Int32.toInt64 ((1 : Int32) <<< (nI t &&& 31)) &&& 63).toBitVec.smod 64).toNat = 2 ^ t := by decide +kernel
theorem xbv_bt : ∀ t, t < 6 → ∀ b, b < 64 → (!(decide (b < 2 ^ t)) && !((b - 2 ^ t).testBit t)) = b.testBit t := by decide +kernel
theorem xbv_way {x : Int64} {t b : Nat} (ht : t < 6) (hb : b < 64) : xbv ((x &&& fw_s2 t) <<< (Int32.toInt64 ((1 : Int32) <<< (nI t &&& 31)) &&& 63)) b = (b.testBit t && xbv x (b - 2 ^ t)) := by
  show ((x &&& fw_s2 t).toBitVec <<< ((Int32.toInt64 ((1 : Int32) <<< (nI t &&& 31)) &&& 63).toBitVec.smod 64)).getLsbD b = _
  rw [BitVec.shiftLeft_eq', xbv_sh t ht, BitVec.getLsbD_shiftLeft]
  have e : (x &&& fw_s2 t).toBitVec.getLsbD (b - 2 ^ t) = (xbv x (b - 2 ^ t) && !((b - 2 ^ t).testBit t)) := by
    have h1 := xbv_and x (fw_s2 t) (b - 2 ^ t)
    rw [fw_s2b t ht (b - 2 ^ t) (Nat.lt_of_le_of_lt (Nat.sub_le _ _) hb)] at h1
    exact h1
  have h2 := xbv_bt t ht b hb
  rw [e, ← h2]
  cases decide (b < 2 ^ t) <;> cases xbv x (b - 2 ^ t) <;> cases (b - 2 ^ t).testBit t <;> simp [hb]
theorem fm_ge2 {f t : Nat} (h : f.testBit t = true) : 2 ^ t ≤ f := by
  by_cases g : f < 2 ^ t
  · rw [Nat.testBit_lt_two_pow g] at h; cases h
  · omega
theorem fm_wlv {μ : fw_M} {j b : Nat} {v : Int64} : (fw_wl μ 69 j v).2 69 b = if b = j then v else μ.2 69 b := rfl
/-- row p, for the free types f -/
def xb (μ : fw_M) (p f : Nat) : Bool := xbv (μ.2 69 (16 * p + f / 64)) (f % 64)
theorem fm_63 (f : Nat) (h : f < 1024) : nI f &&& 63 = nI (f % 64) := pk_andN (by omega) 6 (by decide)
theorem xbv_us : ∀ k, k < 64 → ((Int64.toUInt64 (Int32.toInt64 (nI k)) &&& Int64.toUInt64 63).toBitVec % 64).toNat = k := by decide +kernel
theorem xbv_rd {v : Int64} {k : Nat} (hk : k < 64) : (lg_cmp ((UInt64.toInt64 (Int64.toUInt64 v >>> (Int64.toUInt64 (Int32.toInt64 (nI k)) &&& Int64.toUInt64 63))) &&& 1) 0) = 0 ↔ xbv v k = false := by
  rw [lg_cmp_eq]
  have e : ((UInt64.toInt64 (Int64.toUInt64 v >>> (Int64.toUInt64 (Int32.toInt64 (nI k)) &&& Int64.toUInt64 63))) &&& 1).toBitVec = (v.toBitVec >>> k) &&& 1#64 := by
    show (v.toBitVec >>> ((Int64.toUInt64 (Int32.toInt64 (nI k)) &&& Int64.toUInt64 63).toBitVec % 64)) &&& 1#64 = _
    rw [BitVec.ushiftRight_eq', xbv_us k hk]
  rw [← Int64.toBitVec_inj, e]
  show (v.toBitVec >>> k) &&& 1#64 = 0#64 ↔ v.toBitVec.getLsbD k = false
  constructor
  · intro h
    have h2 := congrArg (fun x => x.getLsbD 0) h
    simpa using h2
  · intro h
    apply BitVec.eq_of_getLsbD_eq
    intro i hi
    rw [BitVec.getLsbD_and, BitVec.getLsbD_ushiftRight]
    by_cases e0 : i = 0
    · subst e0; simp [h]
    · have : (1#64).getLsbD i = false := by simp [e0]
      rw [this]; simp
theorem fx_enough {μ : fw_M} {p f : Nat} (hp : p ≤ 10) (hf : f < 1024) : f_Press_isEnough (nI p) (nI f) μ = some (if xb μ p f = true then 1 else 0) := by
  unfold f_Press_isEnough
  rw [show ((6 : Int32) &&& 31) = (nI 6 &&& 31) from rfl, fm_shr (by omega) (by omega), show (16 : Int32) = nI 16 from rfl, pk_mul, nI_add, fm_rl (show p * 16 + f / 2 ^ 6 < 176 by omega) (by omega), fm_bs, fm_63 f hf, show p * 16 + f / 2 ^ 6 = 16 * p + f / 64 by omega]
  unfold xb
  by_cases h : xbv (μ.2 69 (16 * p + f / 64)) (f % 64) = true
  · rw [if_neg (fun z => by rw [(xbv_rd (by omega)).mp z] at h; cases h), if_pos h]; rfl
  · rw [if_pos ((xbv_rd (by omega)).mpr (by simpa using h)), if_neg h]; rfl
theorem fx_setRow {μ : fw_M} {p W : Nat} {v : Int64} (hW : μ.1 65 9 = nI W) (w16 : W ≤ 16) (hp : p ≤ 10) : fm_T (f_Press_setRow (nI p) v μ) (fun ν => ν.1 = μ.1 ∧ ∀ j, ν.2 69 j = if 16 * p ≤ j ∧ j < 16 * p + W then v else μ.2 69 j) := by
  unfold f_Press_setRow
  rw [fm_bind]
  refine fm_up (P := fun i s => s.1 = nI i ∧ s.2.1 = μ.1 ∧ ∀ j, s.2.2 69 j = if 16 * p ≤ j ∧ j < 16 * p + i then v else μ.2 69 j) W ?_ ?_ 0 (Nat.zero_le _) ⟨rfl, rfl, fun j => by rw [if_neg (by omega)]⟩ (by omega)
  · rintro i ⟨x, ν⟩ hi ⟨h1, h2, h3⟩
    simp only at h1 h2 h3
    subst h1
    unfold f_Press_setRow_L3
    try dsimp only
    rw [h2, hW, if_neg (nI_ge hi (by omega)), show (16 : Int32) = nI 16 from rfl, pk_mul, nI_add, fm_sl (by omega) (by omega), fm_bs, fm_nm, fm_some, fm_Kl]
    refine ⟨nI_1 i, h2, fun j => ?_⟩
    rw [fm_wlv]
    by_cases e : j = p * 16 + i
    · rw [if_pos e, if_pos (by omega)]
    · rw [if_neg e, h3 j]
      by_cases q : 16 * p ≤ j ∧ j < 16 * p + i
      · rw [if_pos q, if_pos (by omega)]
      · rw [if_neg q, if_neg (by omega)]
  · rintro ⟨x, ν⟩ ⟨h1, h2, h3⟩
    simp only at h1 h2 h3
    subst h1
    unfold f_Press_setRow_L3
    try dsimp only
    rw [h2, hW, if_pos (nI_le (Nat.le_refl _) (by omega)), fm_some, fm_Kr, fm_some]
    exact ⟨h2, h3⟩
theorem xb_cong {μ ν : fw_M} {p f : Nat} (hf : f < 1024) (h : ∀ j, 16 * p ≤ j → j < 16 * p + 16 → ν.2 69 j = μ.2 69 j) : xb ν p f = xb μ p f := by
  unfold xb
  rw [h _ (by omega) (by omega)]
theorem fx_way43 {μ : fw_M} {p b t W : Nat} (hW : μ.1 65 9 = nI W) (w16 : W ≤ 16) (hp : p ≤ 10) (hb : b ≤ 10) (hne : p ≠ b) (ht : t < 6) : fm_T (fw_wh (f_Press_addWays_L52 (nI (p * 16)) (nI (b * 16)) (nI t)) fw_N (0, μ)) (fun ν => ν.1 = μ.1 ∧ (∀ j, j < 16 * p ∨ 16 * p + 16 ≤ j → ν.2 69 j = μ.2 69 j) ∧ ∀ f, f < 64 * W → (xb ν p f = true ↔ xb μ p f = true ∨ (f.testBit t = true ∧ xb μ b (f - 2 ^ t) = true))) := by
  refine (fm_up (P := fun i s => s.1 = nI i ∧ s.2.1 = μ.1 ∧ ∀ j, s.2.2 69 j = if 16 * p ≤ j ∧ j < 16 * p + i then μ.2 69 j ||| ((μ.2 69 (16 * b + (j - 16 * p)) &&& fw_s2 t) <<< (Int32.toInt64 ((1 : Int32) <<< (nI t &&& 31)) &&& 63)) else μ.2 69 j) (Q := fun ν => ν.1 = μ.1 ∧ ∀ j, ν.2 69 j = if 16 * p ≤ j ∧ j < 16 * p + W then μ.2 69 j ||| ((μ.2 69 (16 * b + (j - 16 * p)) &&& fw_s2 t) <<< (Int32.toInt64 ((1 : Int32) <<< (nI t &&& 31)) &&& 63)) else μ.2 69 j) W ?_ ?_ 0 (Nat.zero_le _) ⟨rfl, rfl, fun j => by rw [if_neg (by omega)]⟩ (by omega)).mono ?_
  · rintro i ⟨x, ν⟩ hi ⟨h1, h2, h3⟩
    simp only at h1 h2 h3
    subst h1
    unfold f_Press_addWays_L52
    try dsimp only
    rw [h2, hW, if_neg (nI_ge hi (by omega)), nI_add, nI_add, fm_rl (by omega) (by omega), fm_bs, fm_rl (by omega) (by omega), fm_bs, fm_rl ht (by omega), fm_bs, fm_sl (by omega) (by omega), fm_bs, fm_nm, fm_some, fm_Kl]
    refine ⟨nI_1 i, h2, fun j => ?_⟩
    rw [fm_wlv]
    by_cases e : j = p * 16 + i
    · subst e
      rw [if_pos rfl, if_pos (by omega), h3, if_neg (by omega), h3, if_neg (by omega), show 16 * b + (p * 16 + i - 16 * p) = b * 16 + i by omega]
    · rw [if_neg e, h3 j]
      by_cases q : 16 * p ≤ j ∧ j < 16 * p + i
      · rw [if_pos q, if_pos (by omega)]
      · rw [if_neg q, if_neg (by omega)]
  · rintro ⟨x, ν⟩ ⟨h1, h2, h3⟩
    simp only at h1 h2 h3
    subst h1
    unfold f_Press_addWays_L52
    try dsimp only
    rw [h2, hW, if_pos (nI_le (Nat.le_refl _) (by omega)), fm_some, fm_Kr]
    exact ⟨h2, h3⟩
  · intro ν ⟨h1, h2⟩
    refine ⟨h1, fun j hj => by rw [h2, if_neg (by omega)], fun f hf => ?_⟩
    unfold xb
    rw [h2, if_pos (by omega), xbv_or, xbv_way ht (by omega), show 16 * p + f / 64 - 16 * p = f / 64 by omega, show (f % 64).testBit t = f.testBit t by
      rw [show (64 : Nat) = 2 ^ 6 from rfl, Nat.testBit_mod_two_pow]; simp [ht]]
    cases g : f.testBit t
    · simp
    · have g2 : (f % 64).testBit t = true := by
        rw [show (64 : Nat) = 2 ^ 6 from rfl, Nat.testBit_mod_two_pow]; simp [ht, g]
      have g3 := fm_ge2 g2
      generalize 2 ^ t = c at g3
      rw [show (f - c) / 64 = f / 64 by omega, show (f - c) % 64 = f % 64 - c by omega]
      simp
theorem fm_tb6 {f t : Nat} (h : 6 ≤ t) : (f / 64).testBit (t - 6) = f.testBit t := by
  rw [show (64 : Nat) = 2 ^ 6 from rfl, Nat.testBit_div_two_pow, show t - 6 + 6 = t by omega]
theorem fm_and2 {a k : Nat} : (a &&& 2 ^ k = 0) ↔ a.testBit k = false := by
  constructor
  · intro h
    have := congrArg (fun x => x.testBit k) h
    simpa [Nat.testBit_and, Nat.testBit_two_pow] using this
  · intro h
    apply Nat.eq_of_testBit_eq
    intro i
    rw [Nat.testBit_and, Nat.testBit_two_pow, Nat.zero_testBit]
    by_cases e : k = i
    · subst e; simp [h]
    · simp [e]
theorem fx_way111 {μ : fw_M} {p b t W : Nat} (hW : μ.1 65 9 = nI W) (w16 : W ≤ 16) (hp : p ≤ 10) (hb : b ≤ 10) (hne : p ≠ b) (h6 : 6 ≤ t) (h10 : t < 10) (hst : 2 ^ (t - 6) ≤ W) : fm_T (fw_wh (f_Press_addWays_L120 (nI (p * 16)) (nI (b * 16)) (nI (2 ^ (t - 6)))) fw_N (nI (2 ^ (t - 6)), μ)) (fun ν => ν.1 = μ.1 ∧ (∀ j, j < 16 * p ∨ 16 * p + 16 ≤ j → ν.2 69 j = μ.2 69 j) ∧ ∀ f, f < 64 * W → (xb ν p f = true ↔ xb μ p f = true ∨ (f.testBit t = true ∧ xb μ b (f - 2 ^ t) = true))) := by
  have et : 2 ^ t = 64 * 2 ^ (t - 6) := by
    rw [show (64 : Nat) = 2 ^ 6 from rfl, ← Nat.pow_add, show 6 + (t - 6) = t by omega]
  have c16 : 2 ^ (t - 6) ≤ 8 := fm_pow8 (n := 3) (by omega)
  have c1 : 1 ≤ 2 ^ (t - 6) := Nat.one_le_two_pow
  generalize hc : 2 ^ (t - 6) = c at *
  refine (fm_up (P := fun i s => s.1 = nI i ∧ c ≤ i ∧ s.2.1 = μ.1 ∧ ∀ j, s.2.2 69 j = if 16 * p + c ≤ j ∧ j < 16 * p + i ∧ (j - 16 * p).testBit (t - 6) = true then μ.2 69 j ||| μ.2 69 (16 * b + (j - 16 * p) - c) else μ.2 69 j) (Q := fun ν => ν.1 = μ.1 ∧ ∀ j, ν.2 69 j = if 16 * p + c ≤ j ∧ j < 16 * p + W ∧ (j - 16 * p).testBit (t - 6) = true then μ.2 69 j ||| μ.2 69 (16 * b + (j - 16 * p) - c) else μ.2 69 j) W ?_ ?_ c hst ⟨rfl, Nat.le_refl _, rfl, fun j => by rw [if_neg (by omega)]⟩ (by omega)).mono ?_
  · rintro i ⟨x, ν⟩ hi ⟨h1, hci, h2, h3⟩
    simp only at h1 h2 h3
    subst h1
    unfold f_Press_addWays_L120
    try dsimp only
    rw [h2, hW, if_neg (nI_ge hi (by omega)), nI_add, nI_add, pk_sub (by omega), fm_rl (by omega) (by omega), fm_bs, fm_rl (by omega) (by omega), fm_bs, fm_and, ← hc]
    by_cases g : i.testBit (t - 6) = true
    · have hn : i &&& 2 ^ (t - 6) ≠ 0 := fun z => by rw [fm_and2.mp z] at g; cases g
      have hl : i &&& 2 ^ (t - 6) ≤ i := Nat.and_le_left
      rw [if_neg (nI_ne0 (by omega) (by omega)), fm_bs, fm_sl (by omega) (by omega), fm_bs, fm_nm, fm_some, fm_Kl, hc]
      refine ⟨nI_1 i, by omega, h2, fun j => ?_⟩
      rw [fm_wlv]
      by_cases e : j = p * 16 + i
      · subst e
        rw [if_pos rfl, if_pos ⟨by omega, by omega, by rw [show p * 16 + i - 16 * p = i by omega]; exact g⟩, h3, if_neg (by omega), h3, if_neg (by omega), show 16 * b + (p * 16 + i - 16 * p) - c = b * 16 + i - c by omega]
      · rw [if_neg e, h3 j]
        by_cases q : 16 * p + c ≤ j ∧ j < 16 * p + i ∧ (j - 16 * p).testBit (t - 6) = true
        · rw [if_pos q, if_pos ⟨q.1, by omega, q.2.2⟩]
        · rw [if_neg q, if_neg (fun z => q ⟨z.1, by omega, z.2.2⟩)]
    · have g0 : i.testBit (t - 6) = false := by simpa using g
      rw [fm_and2.mpr g0, if_pos (show nI 0 = 0 from rfl), fm_bs, fm_sl (by omega) (by omega), fm_bs, fm_nm, fm_some, fm_Kl, hc]
      refine ⟨nI_1 i, by omega, h2, fun j => ?_⟩
      rw [fm_wlv]
      by_cases e : j = p * 16 + i
      · subst e
        rw [if_pos rfl, if_neg (fun z => by rw [show p * 16 + i - 16 * p = i by omega, g0] at z; exact absurd z.2.2 (by decide)), h3, if_neg (by omega)]
        exact Int64.or_zero
      · rw [if_neg e, h3 j]
        by_cases q : 16 * p + c ≤ j ∧ j < 16 * p + i ∧ (j - 16 * p).testBit (t - 6) = true
        · rw [if_pos q, if_pos ⟨q.1, by omega, q.2.2⟩]
        · rw [if_neg q, if_neg (fun z => q ⟨z.1, by omega, z.2.2⟩)]
  · rintro ⟨x, ν⟩ ⟨h1, hci, h2, h3⟩
    simp only at h1 h2 h3
    subst h1
    unfold f_Press_addWays_L120
    try dsimp only
    rw [h2, hW, if_pos (nI_le (Nat.le_refl _) (by omega)), fm_some, fm_Kr]
    exact ⟨h2, h3⟩
  · intro ν ⟨h1, h2⟩
    refine ⟨h1, fun j hj => by rw [h2, if_neg (by omega)], fun f hf => ?_⟩
    unfold xb
    rw [h2, show 16 * p + f / 64 - 16 * p = f / 64 by omega, fm_tb6 h6, et]
    cases g : f.testBit t
    · rw [if_neg (fun z => by exact absurd z.2.2 (by decide))]
      simp
    · have g2 : (f / 64).testBit (t - 6) = true := by rw [fm_tb6 h6]; exact g
      have g3 := fm_ge2 g2
      rw [hc] at g3
      rw [if_pos ⟨by omega, by omega, rfl⟩, xbv_or, show (f - 64 * c) / 64 = f / 64 - c by omega, show (f - 64 * c) % 64 = f % 64 by omega, show 16 * b + (f / 64 - c) = 16 * b + f / 64 - c by omega]
      simp
/-- how many words a table of k types has -/
def xW (k : Nat) : Nat := if k ≤ 6 then 1 else 2 ^ (k - 6)
theorem xW_le {k : Nat} (h : k ≤ 10) : xW k ≤ 16 ∧ 1 ≤ xW k ∧ 2 ^ k ≤ 64 * xW k := by
  have : ∀ k, k ≤ 10 → xW k ≤ 16 ∧ 1 ≤ xW k ∧ 2 ^ k ≤ 64 * xW k := by decide +kernel
  exact this k h
theorem xW_st {k t : Nat} (h : k ≤ 10) (h6 : 6 ≤ t) (ht : t < k) : 2 ^ (t - 6) ≤ xW k := by
  unfold xW
  rw [if_neg (by omega)]
  exact fm_pow8 (by omega)
theorem fx_ways {μ : fw_M} {p b k a : Nat} (hW : μ.1 65 9 = nI (xW k)) (hU : μ.1 65 8 = nI k) (hk : k ≤ 10) (hp : p ≤ 10) (hb : a ≠ 0 → b ≤ 10) (hne : p ≠ b) (ha : ∀ i, a.testBit i = true → i < k) : fm_T (f_Press_addWays (nI p) (nI b) (nI a) μ) (fun ν => ν.1 = μ.1 ∧ (∀ j, j < 16 * p ∨ 16 * p + 16 ≤ j → ν.2 69 j = μ.2 69 j) ∧ ∀ f, f < 64 * xW k → (xb ν p f = true ↔ xb μ p f = true ∨ ∃ t, a.testBit t = true ∧ f.testBit t = true ∧ xb μ b (f - 2 ^ t) = true)) := by
  obtain ⟨w16, w1, wk⟩ := xW_le hk
  have a10 : a < 2 ^ 10 := by
    apply Nat.lt_pow_two_of_testBit
    intro i hi
    cases q : a.testBit i
    · rfl
    · have := ha i q; omega
  unfold f_Press_addWays
  rw [fm_nm, fm_nm, show (16 : Int32) = nI 16 from rfl, pk_mul, pk_mul, fm_bind]
  refine fm_wh (P := fun i s => ∃ t, t ≤ 10 ∧ i = 10 - t ∧ s.1 = nI t ∧ s.2.1 = μ.1 ∧ (∀ j, j < 16 * p ∨ 16 * p + 16 ≤ j → s.2.2 69 j = μ.2 69 j) ∧ ∀ f, f < 64 * xW k → (xb s.2 p f = true ↔ xb μ p f = true ∨ ∃ x, x < t ∧ a.testBit x = true ∧ f.testBit x = true ∧ xb μ b (f - 2 ^ x) = true)) ?_ (i := 10) ⟨0, by omega, rfl, rfl, rfl, fun _ _ => rfl, fun f _ => ⟨Or.inl, fun z => z.elim id (fun ⟨x, hx, _⟩ => absurd hx (Nat.not_lt_zero _))⟩⟩ (by omega)
  rintro i ⟨x, ν⟩ ⟨t, ht, rfl, h1, h2, h3, h4⟩
  simp only at h1 h2 h3 h4
  subst h1
  unfold f_Press_addWays_L15
  try dsimp only
  rw [show ν.1 65 8 = nI k by rw [h2]; exact hU]
  by_cases kt : k ≤ t
  · rw [if_pos (nI_le kt (by omega)), fm_some, fm_Kr, fm_some]
    refine ⟨h2, h3, fun f hf => (h4 f hf).trans ⟨fun z => z.elim Or.inl (fun ⟨x, _, y⟩ => Or.inr ⟨x, y⟩), fun z => z.elim Or.inl (fun ⟨x, y1, y2⟩ => Or.inr ⟨x, ?_, y1, y2⟩)⟩⟩
    have := ha x y1
    omega
  rw [if_neg (nI_ge (show t < k by omega) (by omega)), fm_shr (by omega) (by omega)]
  by_cases e0 : a / 2 ^ t = 0
  · rw [e0, if_pos (show nI 0 = 0 from rfl), fm_some, fm_Kr, fm_some]
    refine ⟨h2, h3, fun f hf => (h4 f hf).trans ⟨fun z => z.elim Or.inl (fun ⟨x, _, y⟩ => Or.inr ⟨x, y⟩), fun z => z.elim Or.inl (fun ⟨x, y1, y2⟩ => Or.inr ⟨x, ?_, y1, y2⟩)⟩⟩
    have : a < 2 ^ t := by
      by_cases q : a < 2 ^ t
      · exact q
      · have := Nat.div_pos (show 2 ^ t ≤ a by omega) (Nat.two_pow_pos t); omega
    have := fm_ge2 y1
    by_cases q : x < t
    · exact q
    · have : 2 ^ t ≤ 2 ^ x := fm_pow8 (by omega)
      omega
  · have t10 : t < 10 := by
      by_cases q : t = 10
      · subst q; exact absurd (Nat.div_eq_of_lt a10) e0
      · omega
    have hlt : a / 2 ^ t ≤ a := Nat.div_le_self _ _
    have a31 : a < 2147483648 := Nat.lt_trans a10 (by decide)
    have hpos : 0 < a / 2 ^ t := Nat.pos_of_ne_zero e0
    rw [if_neg (nI_ne0 hpos (Nat.lt_of_le_of_lt hlt a31)), ← fm_shr (n := a) (k := t) (by omega) a31, fm_bit0' (by omega) a31]
    have step : ∀ (ξ : fw_M), ξ.1 = ν.1 → (∀ j, j < 16 * p ∨ 16 * p + 16 ≤ j → ξ.2 69 j = ν.2 69 j) → (∀ f, f < 64 * xW k → (xb ξ p f = true ↔ xb ν p f = true ∨ (a.testBit t = true ∧ f.testBit t = true ∧ xb μ b (f - 2 ^ t) = true))) → ∃ j, j < 10 - t ∧ ∃ t_1, t_1 ≤ 10 ∧ j = 10 - t_1 ∧ nI t + 1 = nI t_1 ∧ ξ.1 = μ.1 ∧ (∀ j, j < 16 * p ∨ 16 * p + 16 ≤ j → ξ.2 69 j = μ.2 69 j) ∧ ∀ f, f < 64 * xW k → (xb ξ p f = true ↔ xb μ p f = true ∨ ∃ x, x < t_1 ∧ a.testBit x = true ∧ f.testBit x = true ∧ xb μ b (f - 2 ^ x) = true) := by
      intro ξ q1 q2 q3
      refine ⟨10 - (t + 1), by omega, t + 1, by omega, rfl, nI_1 t, q1.trans h2, fun j hj => (q2 j hj).trans (h3 j hj), fun f hf => ?_⟩
      rw [q3 f hf, h4 f hf]
      constructor
      · rintro ((z | ⟨x, y1, y2⟩) | z)
        · exact Or.inl z
        · exact Or.inr ⟨x, by omega, y2⟩
        · exact Or.inr ⟨t, by omega, z⟩
      · rintro (z | ⟨x, y1, y2⟩)
        · exact Or.inl (Or.inl z)
        · by_cases e : x = t
          · subst e; exact Or.inr y2
          · exact Or.inl (Or.inr ⟨x, by omega, y2⟩)
    by_cases bt : a.testBit t = true
    · have htk := ha t bt
      have ane : a ≠ 0 := fun z => by rw [z] at bt; simp at bt
      have hb10 := hb ane
      have hWν : ν.1 65 9 = nI (xW k) := by rw [h2]; exact hW
      have low : ∀ f, f < 64 * xW k → xb ν b (f - 2 ^ t) = xb μ b (f - 2 ^ t) := fun f hf => xb_cong (Nat.lt_of_le_of_lt (Nat.sub_le _ _) (by omega)) (fun j j1 j2 => h3 j (by omega))
      rw [if_pos bt, fm_bind]
      by_cases t6 : 6 ≤ t
      · rw [if_pos (show (6 : Int32) ≤ nI t from (nI_leI (a := 6) (by omega) (by omega)).mpr t6), fm_nm, show (6 : Int32) = nI 6 from rfl, pk_sub t6, fm_one (by omega), fm_bind]
        refine (fx_way111 hWν w16 hp hb10 hne t6 t10 (xW_st hk t6 htk)).mono ?_
        intro ξ ⟨q1, q2, q3⟩
        rw [fm_some, fm_nm, fm_some, fm_Kl]
        exact step ξ q1 q2 (fun f hf => by rw [q3 f hf, low f hf]; exact ⟨fun z => z.imp id (fun y => ⟨bt, y⟩), fun z => z.imp id (fun y => y.2)⟩)
      · rw [if_neg (show ¬ (6 : Int32) ≤ nI t from fun z => t6 ((nI_leI (a := 6) (by omega) (by omega)).mp z)), fm_bind]
        refine (fx_way43 hWν w16 hp hb10 hne (by omega)).mono ?_
        intro ξ ⟨q1, q2, q3⟩
        rw [fm_some, fm_nm, fm_some, fm_Kl]
        exact step ξ q1 q2 (fun f hf => by rw [q3 f hf, low f hf]; exact ⟨fun z => z.imp id (fun y => ⟨bt, y⟩), fun z => z.imp id (fun y => y.2)⟩)
    · rw [if_neg bt, fm_bs, fm_nm, fm_some, fm_Kl]
      exact step ν rfl (fun _ _ => rfl) (fun f hf => ⟨Or.inl, fun z => z.elim id (fun y => absurd y.1 bt)⟩)
