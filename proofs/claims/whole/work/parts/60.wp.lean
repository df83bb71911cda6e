/-! THE CALCULUS of the pure machine: fm_T x Q: x is there, and Q holds of it -/
def fm_T {α : Type} (x : Option α) (Q : α → Prop) : Prop := ∃ a, x = some a ∧ Q a
theorem fm_T.mono {α : Type} {x : Option α} {P Q : α → Prop} (h : fm_T x P) (hq : ∀ a, P a → Q a) : fm_T x Q := by
  obtain ⟨a, e, p⟩ := h
  exact ⟨a, e, hq a p⟩
theorem fm_some {α : Type} {a : α} {Q : α → Prop} : fm_T (some a) Q ↔ Q a := ⟨fun ⟨b, h, hq⟩ => by obtain rfl := Option.some.inj h; exact hq, fun h => ⟨a, rfl, h⟩⟩
theorem fm_none {α : Type} {Q : α → Prop} : fm_T (none : Option α) Q ↔ False := ⟨fun ⟨_, h, _⟩ => (by cases h), fun h => False.elim h⟩
theorem fm_bind {α β : Type} {x : Option α} {k : α → Option β} {Q : β → Prop} : fm_T (x.bind k) Q ↔ fm_T x (fun a => fm_T (k a) Q) := by
  cases x with
  | none => exact ⟨fun ⟨_, h, _⟩ => (by cases h), fun ⟨_, h, _⟩ => (by cases h)⟩
  | some a => rw [fm_some]; exact Iff.rfl
theorem fm_ite {α : Type} {c : Prop} [Decidable c] {a b : Option α} {Q : α → Prop} : fm_T (if c then a else b) Q ↔ (c → fm_T a Q) ∧ (¬ c → fm_T b Q) := by
  by_cases h : c
  · simp [h]
  · simp [h]
theorem fm_nm {α β : Type} {a : α} {K : α → Option β} {Q : β → Prop} : fm_T (fw_nm a K) Q ↔ fm_T (K a) Q := Iff.rfl
theorem fm_nmE {α β : Type} (a : α) (K : α → β) : fw_nm a K = K a := rfl
theorem fm_bs {α β : Type} (a : α) (k : α → Option β) : (some a).bind k = k a := rfl
def fm_K {S E : Type} (A : S → Prop) (B : E → Prop) (x : S ⊕ E) : Prop := match x with
  | .inl s => A s
  | .inr e => B e
theorem fm_Kl {S E : Type} {A : S → Prop} {B : E → Prop} {s : S} : fm_K A B (.inl s) ↔ A s := Iff.rfl
theorem fm_Kr {S E : Type} {A : S → Prop} {B : E → Prop} {e : E} : fm_K A B (.inr e) ↔ B e := Iff.rfl
theorem fm_wh0 {S E : Type} {body : S → Option (S ⊕ E)} {Q : E → Prop} (P : Nat → S → Prop) (step : ∀ i s, P i s → fm_T (body s) (fm_K (fun s1 => ∃ j, j < i ∧ P j s1) Q)) : ∀ (n i : Nat) (s : S), P i s → i < n → fm_T (fw_wh body n s) Q := by
  intro n
  induction n with
  | zero => intro i s _ h; exact absurd h (Nat.not_lt_zero _)
  | succ n ih =>
    intro i s hP hi
    obtain ⟨x, hx, hk⟩ := step i s hP
    rw [fw_wh, hx]
    cases x with
    | inl s1 =>
      obtain ⟨j, hj, hP1⟩ := hk
      exact ih j s1 hP1 (by omega)
    | inr e => exact ⟨e, rfl, hk⟩
/-- a loop: P i s: at most i turns are left -/
theorem fm_wh {S E : Type} {body : S → Option (S ⊕ E)} {Q : E → Prop} (P : Nat → S → Prop) (step : ∀ i s, P i s → fm_T (body s) (fm_K (fun s1 => ∃ j, j < i ∧ P j s1) Q)) {i : Nat} {s : S} (h : P i s) (hi : i < 100000000) : fm_T (fw_wh body fw_N s) Q := fm_wh0 P step fw_N i s h hi
/-- a loop that counts up to n -/
theorem fm_up {S E : Type} {body : S → Option (S ⊕ E)} {Q : E → Prop} (P : Nat → S → Prop) (n : Nat) (step : ∀ i s, i < n → P i s → fm_T (body s) (fm_K (fun s1 => P (i + 1) s1) Q)) (last : ∀ s, P n s → fm_T (body s) (fm_K (fun _ => False) Q)) (lo : Nat) {s : S} (hl : lo ≤ n) (h : P lo s) (hn : n < 10000000) : fm_T (fw_wh body fw_N s) Q := by
  refine fm_wh (P := fun i s => ∃ k, k ≤ n ∧ i = n - k ∧ P k s) ?_ (i := n - lo) ⟨lo, hl, rfl, h⟩ (by omega)
  rintro i s ⟨k, hk, rfl, hP⟩
  by_cases hkn : k = n
  · subst hkn
    refine (last s hP).mono ?_
    intro x hx
    cases x with
    | inl s1 => exact hx.elim
    | inr e => exact hx
  · refine (step k s (by omega) hP).mono ?_
    intro x hx
    cases x with
    | inl s1 => exact ⟨n - (k + 1), by omega, k + 1, by omega, rfl, hx⟩
    | inr e => exact hx
/-- a loop that counts down -/
theorem fm_dn {S E : Type} {body : S → Option (S ⊕ E)} {Q : E → Prop} (P : Nat → S → Prop) (step : ∀ i s, P (i + 1) s → fm_T (body s) (fm_K (fun s1 => P i s1) Q)) (last : ∀ s, P 0 s → fm_T (body s) (fm_K (fun _ => False) Q)) (n : Nat) {s : S} (h : P n s) (hn : n < 10000000) : fm_T (fw_wh body fw_N s) Q := by
  refine fm_wh (P := P) ?_ (i := n) h (by omega)
  intro i s hP
  cases i with
  | zero =>
    refine (last s hP).mono ?_
    intro x hx
    cases x with
    | inl s1 => exact hx.elim
    | inr e => exact hx
  | succ k =>
    refine (step k s hP).mono ?_
    intro x hx
    cases x with
    | inl s1 => exact ⟨k, by omega, hx⟩
    | inr e => exact hx
/-! reads and writes at numbers -/
theorem fm_rd {n j : Nat} {f : Nat → Int32} (h : j < n) (hn : n < 2147483648) : fw_rd n f (nI j) = some (f j) := by
  unfold fw_rd
  rw [if_neg (nI_in h hn), nI_clamp (by omega)]
theorem fm_rl {n j : Nat} {f : Nat → Int64} (h : j < n) (hn : n < 2147483648) : fw_rl n f (nI j) = some (f j) := by
  unfold fw_rl
  rw [if_neg (nI_in h hn), nI_clamp (by omega)]
theorem fm_rq {n j r : Nat} {rs : List Nat} (h : j < n) (hn : n < 2147483648) (hr : rs[j]? = some r) : fw_rq n rs (nI j) = some r := by
  unfold fw_rq
  rw [if_neg (nI_in h hn), nI_clamp (by omega), hr]
theorem fm_si {n k j : Nat} {μ : fw_M} {v : Int32} (h : j < n) (hn : n < 2147483648) : fw_si n μ k (nI j) v = some (fw_wr μ k j v) := by
  unfold fw_si
  rw [if_neg (nI_in h hn), nI_clamp (by omega)]
theorem fm_sl {n k j : Nat} {μ : fw_M} {v : Int64} (h : j < n) (hn : n < 2147483648) : fw_sl n μ k (nI j) v = some (fw_wl μ k j v) := by
  unfold fw_sl
  rw [if_neg (nI_in h hn), nI_clamp (by omega)]
theorem fm_sz0 {n k j : Nat} {μ : fw_M} (h : j < n) (hn : n < 2147483648) : fw_sz n μ k (nI j) 0 = some (fw_wr μ k j 0) := by
  unfold fw_sz
  rw [if_neg (nI_in h hn), nI_clamp (by omega), if_pos (Or.inl rfl)]
theorem fm_sz1 {n k j : Nat} {μ : fw_M} (h : j < n) (hn : n < 2147483648) : fw_sz n μ k (nI j) 1 = some (fw_wr μ k j 1) := by
  unfold fw_sz
  rw [if_neg (nI_in h hn), nI_clamp (by omega), if_pos (Or.inr rfl)]
theorem fm_bz0 : fw_bz 0 = some 0 := rfl
theorem fm_bz1 : fw_bz 1 = some 1 := rfl
theorem fm_cp {n0 n1 k0 k1 sp dp n : Nat} {μ : fw_M} (h0 : sp + n ≤ n0) (h1 : dp + n ≤ n1) (b0 : n0 < 2147483648) (b1 : n1 < 2147483648) : fw_cp n0 n1 μ k0 (nI sp) k1 (nI dp) (nI n) = some (fw_wc μ k1 (va_cpy (μ.1 k0) (μ.1 k1) sp dp n)) := by
  unfold fw_cp
  rw [nI_clamp (by omega), nI_clamp (by omega), nI_clamp (by omega), if_neg]
  intro h
  rcases h with h | h | h | h | h
  · exact nI_pos (by omega) h
  · exact nI_pos (by omega) h
  · exact nI_pos (by omega) h
  · omega
  · omega
theorem fm_cl2 {n0 n1 k0 k1 sp dp n : Nat} {μ : fw_M} (h0 : sp + n ≤ n0) (h1 : dp + n ≤ n1) (b0 : n0 < 2147483648) (b1 : n1 < 2147483648) : fw_cl2 n0 n1 μ k0 (nI sp) k1 (nI dp) (nI n) = some (fw_wd μ k1 (va_cpy (μ.2 k0) (μ.2 k1) sp dp n)) := by
  unfold fw_cl2
  rw [nI_clamp (by omega), nI_clamp (by omega), nI_clamp (by omega), if_neg]
  intro h
  rcases h with h | h | h | h | h
  · exact nI_pos (by omega) h
  · exact nI_pos (by omega) h
  · exact nI_pos (by omega) h
  · omega
  · omega
/-! memory -/
theorem fm_wrC (μ : fw_M) (k j : Nat) (v : Int32) (a : Nat) : (fw_wr μ k j v).1 a = if a = k then upd (μ.1 k) j v else μ.1 a := rfl
theorem fm_wr {μ : fw_M} {k j : Nat} {v : Int32} {a b : Nat} : (fw_wr μ k j v).1 a b = if a = k ∧ b = j then v else μ.1 a b := by
  rw [fm_wrC]
  by_cases h : a = k
  · subst h
    by_cases h2 : b = j
    · simp [h2, upd]
    · simp [h2, upd]
  · simp [h]
theorem fm_wrn {μ : fw_M} {k j : Nat} {v : Int32} {a : Nat} (h : a ≠ k) : (fw_wr μ k j v).1 a = μ.1 a := by rw [fm_wrC, if_neg h]
theorem fm_wrs {μ : fw_M} {k j : Nat} {v : Int32} : (fw_wr μ k j v).1 k = upd (μ.1 k) j v := by rw [fm_wrC, if_pos rfl]
theorem fm_upd {f : Nat → Int32} {k : Nat} {x : Int32} {j : Nat} : upd f k x j = if j = k then x else f j := rfl
theorem fm_wr2 {μ : fw_M} {k j : Nat} {v : Int32} : (fw_wr μ k j v).2 = μ.2 := rfl
theorem fm_wcC (μ : fw_M) (k : Nat) (f : Nat → Int32) (a : Nat) : (fw_wc μ k f).1 a = if a = k then f else μ.1 a := rfl
theorem fm_wl1 {μ : fw_M} {k j : Nat} {v : Int64} : (fw_wl μ k j v).1 = μ.1 := rfl
theorem fm_wd1 {μ : fw_M} {k : Nat} {f : Nat → Int64} : (fw_wd μ k f).1 = μ.1 := rfl
/-- nothing but these cells has changed -/
def fm_F (l : List Nat) (μ ν : fw_M) : Prop := ∀ k, k ∉ l → ν.1 k = μ.1 k
theorem fm_F.at {l : List Nat} {μ ν : fw_M} (h : fm_F l μ ν) (k : Nat) (hk : k ∉ l := by decide) : ν.1 k = μ.1 k := h k hk
theorem fm_F.rf {l : List Nat} {μ : fw_M} : fm_F l μ μ := fun _ _ => rfl
theorem fm_F.tr {l : List Nat} {μ ν ξ : fw_M} (h : fm_F l μ ν) (h2 : fm_F l ν ξ) : fm_F l μ ξ := fun k hk => (h2 k hk).trans (h k hk)
theorem fm_F.up {l l2 : List Nat} {μ ν : fw_M} (h : fm_F l μ ν) (hl : ∀ k, k ∈ l → k ∈ l2 := by decide) : fm_F l2 μ ν := fun k hk => h k (fun h2 => hk (hl k h2))
theorem fm_F.wr {l : List Nat} {μ ν : fw_M} (h : fm_F l μ ν) {k j : Nat} {v : Int32} (hk : k ∈ l := by decide) : fm_F l μ (fw_wr ν k j v) := fun a ha => by
  rw [fm_wrn (a := a) (k := k) (fun e => ha (by rw [e]; exact hk))]
  exact h a ha
theorem fm_F.wc {l : List Nat} {μ ν : fw_M} (h : fm_F l μ ν) {k : Nat} {f : Nat → Int32} (hk : k ∈ l := by decide) : fm_F l μ (fw_wc ν k f) := fun a ha => by
  rw [fm_wcC, if_neg (fun e => ha (by rw [e]; exact hk))]
  exact h a ha
/-! numbers: each literal is an nI -/
theorem fm_l0 : (0 : Int32) = nI 0 := rfl
theorem fm_l1 : (1 : Int32) = nI 1 := rfl
theorem fm_l2 : (2 : Int32) = nI 2 := rfl
theorem fm_l3 : (3 : Int32) = nI 3 := rfl
theorem fm_l4 : (4 : Int32) = nI 4 := rfl
theorem fm_l6 : (6 : Int32) = nI 6 := rfl
theorem fm_l8 : (8 : Int32) = nI 8 := rfl
theorem fm_l9 : (9 : Int32) = nI 9 := rfl
theorem fm_l10 : (10 : Int32) = nI 10 := rfl
theorem fm_l11 : (11 : Int32) = nI 11 := rfl
theorem fm_l12 : (12 : Int32) = nI 12 := rfl
theorem fm_l13 : (13 : Int32) = nI 13 := rfl
theorem fm_l16 : (16 : Int32) = nI 16 := rfl
theorem fm_l24 : (24 : Int32) = nI 24 := rfl
theorem fm_l32 : (32 : Int32) = nI 32 := rfl
theorem fm_l60 : (60 : Int32) = nI 60 := rfl
theorem fm_l97 : (97 : Int32) = nI 97 := rfl
theorem fm_l98 : (98 : Int32) = nI 98 := rfl
theorem fm_l99 : (99 : Int32) = nI 99 := rfl
theorem fm_l126 : (126 : Int32) = nI 126 := rfl
theorem fm_l200 : (200 : Int32) = nI 200 := rfl
theorem fm_l1000 : (1000 : Int32) = nI 1000 := rfl
theorem fm_l1024 : (1024 : Int32) = nI 1024 := rfl
/-- one below a number: nD 0 is -1 -/
def nD (n : Nat) : Int32 := nI n - 1
theorem nD_s (n : Nat) : nD (n + 1) = nI n := nI_pred n
theorem nD_0 : nD 0 = -1 := rfl
theorem nD_m (n : Nat) : nI n + (-1) = nD n := by
  cases n with
  | zero => rfl
  | succ n => rw [pk_m1, nD_s]
theorem nI_m (n : Nat) : nI n - 1 = nD n := rfl
theorem fm_nne {b : Nat} (h : b < 2147483648) : nI b ≠ -1 := by
  intro e
  have h1 := nI_pos (n := b) h
  rw [e] at h1
  exact h1 (by decide)
/-- any number is below 0, or an nI -/
theorem fm_num (x : Int32) : x < 0 ∨ ∃ j : Nat, j < 2147483648 ∧ x = nI j := by
  by_cases h : x < 0
  · exact Or.inl h
  · exact Or.inr (nI_of h)
/-! bits of sets -/
theorem fm_s31 {k : Nat} (h : k < 32) : ((nI k &&& 31).toBitVec.smod 32).toNat = k := by
  have : ∀ k, k < 32 → ((nI k &&& 31).toBitVec.smod 32).toNat = k := by decide +kernel
  exact this k h
theorem fm_shl {n k : Nat} (hk : k < 32) (h : n * 2 ^ k < 4294967296) : nI n <<< (nI k &&& 31) = nI (n * 2 ^ k) := pk_shlN _ k (fm_s31 hk) h
theorem fm_one {k : Nat} (hk : k < 31) : (1 : Int32) <<< (nI k &&& 31) = nI (2 ^ k) := by
  have h := fm_shl (n := 1) (k := k) (by omega) (by
    have : 2 ^ k ≤ 2 ^ 30 := Nat.pow_le_pow_right (by omega) (by omega)
    omega)
  rw [Nat.one_mul] at h
  exact h
theorem fm_shr {n k : Nat} (hk : k < 32) (h : n < 2147483648) : nI n >>> (nI k &&& 31) = nI (n / 2 ^ k) := pk_shrN h _ k (fm_s31 hk)
theorem fm_nIb (n : Nat) : (nI n).toBitVec = BitVec.ofNat 32 n := rfl
theorem fm_ext {x y : Int32} (h : x.toBitVec = y.toBitVec) : x = y := Int32.toBitVec_inj.mp h
theorem fm_and (a b : Nat) : nI a &&& nI b = nI (a &&& b) := fm_ext (by
  show (BitVec.ofNat 32 a) &&& (BitVec.ofNat 32 b) = BitVec.ofNat 32 (a &&& b)
  apply BitVec.eq_of_getLsbD_eq
  intro i hi
  simp [BitVec.getLsbD_and, BitVec.getLsbD_ofNat, hi])
theorem fm_or (a b : Nat) : nI a ||| nI b = nI (a ||| b) := fm_ext (by
  show (BitVec.ofNat 32 a) ||| (BitVec.ofNat 32 b) = BitVec.ofNat 32 (a ||| b)
  apply BitVec.eq_of_getLsbD_eq
  intro i hi
  simp [BitVec.getLsbD_or, BitVec.getLsbD_ofNat, hi])
theorem fm_xor (a b : Nat) : nI a ^^^ nI b = nI (a ^^^ b) := fm_ext (by
  show (BitVec.ofNat 32 a) ^^^ (BitVec.ofNat 32 b) = BitVec.ofNat 32 (a ^^^ b)
  apply BitVec.eq_of_getLsbD_eq
  intro i hi
  simp [BitVec.getLsbD_xor, BitVec.getLsbD_ofNat, hi])
theorem fm_andn (a b : Nat) : nI a &&& (nI b ^^^ (-1)) = nI (a ^^^ (a &&& b)) := fm_ext (by
  show (BitVec.ofNat 32 a) &&& ((BitVec.ofNat 32 b) ^^^ (-1 : Int32).toBitVec) = BitVec.ofNat 32 (a ^^^ (a &&& b))
  have e : (-1 : Int32).toBitVec = BitVec.allOnes 32 := by decide
  rw [e]
  apply BitVec.eq_of_getLsbD_eq
  intro i hi
  simp only [BitVec.getLsbD_and, BitVec.getLsbD_xor, BitVec.getLsbD_ofNat, BitVec.getLsbD_allOnes, hi, decide_true, Bool.true_and, Nat.testBit_xor, Nat.testBit_and]
  cases a.testBit i <;> cases b.testBit i <;> rfl)
theorem fm_bit {s k : Nat} (hk : k < 32) (h : s < 2147483648) : (nI s >>> (nI k &&& 31)) &&& 1 = if s.testBit k then 1 else 0 := by
  rw [fm_shr hk h, fm_l1, fm_and, Nat.and_one_is_mod]
  have e : s.testBit k = decide (s / 2 ^ k % 2 = 1) := by rw [Nat.testBit_eq_decide_div_mod_eq]
  rw [e]
  by_cases h1 : s / 2 ^ k % 2 = 1
  · simp [h1]
  · have h0 : s / 2 ^ k % 2 = 0 := by omega
    simp [h0]
    rfl
theorem fm_bit0 {s k : Nat} (hk : k < 32) (h : s < 2147483648) : ((nI s >>> (nI k &&& 31)) &&& 1 = 0) ↔ s.testBit k = false := by
  rw [fm_bit hk h]
  cases s.testBit k
  · simp
  · simp
theorem fm_bit1 {s k : Nat} (hk : k < 32) (h : s < 2147483648) : ((nI s >>> (nI k &&& 31)) &&& 1 = 1) ↔ s.testBit k = true := by
  rw [fm_bit hk h]
  cases s.testBit k
  · simp
  · simp
theorem fm_inSet {s k : Nat} (hk : k < 32) (h : s < 2147483648) : f_X_inSet (nI s) (nI k) = some (if s.testBit k then 1 else 0) := by
  unfold f_X_inSet
  rw [fm_bit hk h]
  cases s.testBit k
  · rfl
  · rfl
