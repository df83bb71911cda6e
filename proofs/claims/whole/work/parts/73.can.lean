/-! what a pull can: places from p on, by free types -/
def fq (al jo : Nat → Nat → Prop) (n m s p : Nat) (F : Nat → Prop) : Prop := fp_w al jo n m s (n - p) F
def fq_no (F : Nat → Prop) (t : Nat) : Nat → Prop := fun x => F x ∧ x ≠ t
theorem fq_end {al jo : Nat → Nat → Prop} {n m s p : Nat} {F : Nat → Prop} (h : n ≤ p) : fq al jo n m s p F := by
  unfold fq
  rw [show n - p = 0 by omega]
  trivial
/-- one step -/
theorem fq_st {al jo : Nat → Nat → Prop} {n m s p : Nat} {F : Nat → Prop} (h : p < n) : fq al jo n m s p F ↔ (s.testBit p = false ∧ fq al jo n m s (p + 1) F) ∨ (s.testBit p = true ∧ ∃ t, t < m ∧ F t ∧ ((al t p ∧ fq al jo n m s (p + 1) (fq_no F t)) ∨ (jo t p ∧ p + 2 ≤ n ∧ fq al jo n m s (p + 2) (fq_no F t)))) := by
  unfold fq
  by_cases e : n - p = 1
  · rw [e, show n - (p + 1) = 0 by omega]
    have ep : n - 1 = p := by omega
    simp only [fp_w, ep]
    constructor
    · rintro (h1 | ⟨h1, t, h2, h3, h4⟩)
      · exact Or.inl ⟨h1, trivial⟩
      · exact Or.inr ⟨h1, t, h2, h3, Or.inl ⟨h4, trivial⟩⟩
    · rintro (⟨h1, _⟩ | ⟨h1, t, h2, h3, (⟨h4, _⟩ | ⟨_, h5, _⟩)⟩)
      · exact Or.inl h1
      · exact Or.inr ⟨h1, t, h2, h3, h4⟩
      · exact absurd h5 (by omega)
  · obtain ⟨k, hk⟩ : ∃ k, n - p = k + 2 := ⟨n - p - 2, by omega⟩
    rw [hk, show n - (p + 1) = k + 1 by omega, show n - (p + 2) = k by omega]
    have ep : n - (k + 2) = p := by omega
    simp only [fp_w, ep]
    constructor
    · rintro (h1 | ⟨h1, t, h2, h3, (⟨h4, h5⟩ | ⟨h4, h5⟩)⟩)
      · exact Or.inl h1
      · exact Or.inr ⟨h1, t, h2, h3, Or.inl ⟨h4, h5⟩⟩
      · exact Or.inr ⟨h1, t, h2, h3, Or.inr ⟨h4, by omega, h5⟩⟩
    · rintro (h1 | ⟨h1, t, h2, h3, (⟨h4, h5⟩ | ⟨h4, _, h5⟩)⟩)
      · exact Or.inl h1
      · exact Or.inr ⟨h1, t, h2, h3, Or.inl ⟨h4, h5⟩⟩
      · exact Or.inr ⟨h1, t, h2, h3, Or.inr ⟨h4, h5⟩⟩
/-- truth as 1, 0 -/
noncomputable def fB (p : Prop) : Int32 := @ite _ p (Classical.propDecidable _) 1 0
theorem fB1 {p : Prop} (h : p) : fB p = 1 := if_pos h
theorem fB0 {p : Prop} (h : ¬ p) : fB p = 0 := if_neg h
theorem fBz (p : Prop) : fw_bz (fB p) = some (fB p) := by
  by_cases h : p
  · rw [fB1 h]; rfl
  · rw [fB0 h]; rfl
theorem fBi {p q : Prop} (h : p ↔ q) : fB p = fB q := by rw [propext h]
theorem fBite {p : Prop} [Decidable p] : (if p then (1 : Int32) else 0) = fB p := by
  by_cases h : p
  · rw [if_pos h, fB1 h]
  · rw [if_neg h, fB0 h]
theorem nI_eq32 {a b : Nat} (ha : a < 4294967296) (hb : b < 4294967296) : nI a = nI b ↔ a = b := by
  constructor
  · intro h
    have h2 : (nI a).toBitVec.toNat = (nI b).toBitVec.toNat := by rw [h]
    rw [pk_tn ha, pk_tn hb] at h2
    exact h2
  · intro h; rw [h]
/-- the reference's state as the press sees it -/
def wT2 (T : List fm_Ty) : Prop := T.length ≤ 10 ∧ ∀ i, i < T.length → (fm_tt T i).1 < 4294967296 ∧ (fm_tt T i).2.1 < 4294967296 ∧ (fm_tt T i).2.2 < 4294967296
theorem wT.w2 {T : List fm_Ty} (h : wT T) : wT2 T := ⟨h.1, fun i hi => by
  obtain ⟨a, b, c⟩ := fm_ok_lt (h.2 i hi)
  exact ⟨by omega, by omega, by omega⟩⟩
def hM (μ : fw_M) (T : List fm_Ty) (L : fm_Li) (w : Nat) : Prop := rT (μ.1 0 0) (μ.1 1) (μ.1 2) (μ.1 3) T ∧ (rL (μ.1 0 6) (μ.1 6) L ∧ μ.1 0 8 = nI L.2) ∧ μ.1 5 0 = nI w
theorem hM.cong {μ ν : fw_M} {T : List fm_Ty} {L : fm_Li} {w : Nat} {l : List Nat} (h : hM μ T L w) (F : fm_F l μ ν) (z0 : ν.1 0 0 = μ.1 0 0) (z6 : ν.1 0 6 = μ.1 0 6) (z8 : ν.1 0 8 = μ.1 0 8) (d : fm_no l [1, 2, 3, 5, 6] := by decide) : hM ν T L w := by
  unfold hM at *
  rw [z0, z6, z8, F 1 (fm_no_at d (by decide)), F 2 (fm_no_at d (by decide)), F 3 (fm_no_at d (by decide)), F 5 (fm_no_at d (by decide)), F 6 (fm_no_at d (by decide))]
  exact h
theorem hM.c0 {μ ν : fw_M} {T : List fm_Ty} {L : fm_Li} {w : Nat} {l : List Nat} (h : hM μ T L w) (F : fm_F l μ ν) (d : fm_no l [0, 1, 2, 3, 5, 6] := by decide) : hM ν T L w := by
  unfold hM at *
  rw [F 0 (fm_no_at d (by decide)), F 1 (fm_no_at d (by decide)), F 2 (fm_no_at d (by decide)), F 3 (fm_no_at d (by decide)), F 5 (fm_no_at d (by decide)), F 6 (fm_no_at d (by decide))]
  exact h
theorem fy_prints {μ : fw_M} {T : List fm_Ty} {L : fm_Li} {w t p : Nat} (h : hM μ T L w) (wt : wT2 T) (wl : wL L) (ht : t < T.length) (hp : p < L.1.length) : f_M_prints (nI t) (nI p) μ = some (fB (fp_pr T L t p)) := by
  have t10 := wt.1
  have l10 := wl.1
  obtain ⟨b1, b2, b3⟩ := h.1.2 t ht
  obtain ⟨c1, c2, c3⟩ := wt.2 t ht
  have b4 := h.2.1.1.2 p hp
  have c4 := wl.2.1 p hp
  have r : ∀ f : Nat → Int32, fw_rd 10 f (nI t) = some (f t) := fun f => fm_rd (by omega) (by omega)
  have r2 : ∀ f : Nat → Int32, fw_rd 10 f (nI p) = some (f p) := fun f => fm_rd (by omega) (by omega)
  have k1 : nI (fm_tt T t).1 = 1 ↔ (fm_tt T t).1 = 1 := nI_eq32 (b := 1) c1 (by omega)
  have k2 : nI (fm_tt T t).1 = 2 ↔ (fm_tt T t).1 = 2 := nI_eq32 (b := 2) c1 (by omega)
  have k3 : nI (fm_tt T t).2.1 = nI (fm_ll L p) ↔ (fm_tt T t).2.1 = fm_ll L p := nI_eq32 c2 (by omega)
  have k4 : nI (fm_tt T t).2.2 = nI (fm_ll L p) ↔ (fm_tt T t).2.2 = fm_ll L p := nI_eq32 c3 (by omega)
  unfold f_M_prints
  simp only [r, r2, fm_bs, b1, b2, b3, b4, k1, k2, k3, k4]
  by_cases e2 : (fm_tt T t).1 = 2
  · have e1 : ¬ (fm_tt T t).1 = 1 := by omega
    rw [if_pos e2, if_neg e1, fB0 (fun z => z.elim (fun q => q.1 e2) (fun q => e1 q.1))]; rfl
  · rw [if_neg e2]
    by_cases e3 : (fm_tt T t).2.1 = fm_ll L p
    · rw [if_pos e3, fB1 (show fp_pr T L t p from Or.inl ⟨e2, e3⟩)]; rfl
    · rw [if_neg e3]
      by_cases e1 : (fm_tt T t).1 = 1
      · rw [if_pos e1]
        by_cases e4 : (fm_tt T t).2.2 = fm_ll L p
        · rw [if_pos e4, fB1 (show fp_pr T L t p from Or.inr ⟨e1, e4⟩)]; rfl
        · rw [if_neg e4, fB0 (fun z => z.elim (fun q => e3 q.2) (fun q => e4 q.2))]; rfl
      · rw [if_neg e1, fB0 (fun z => z.elim (fun q => e3 q.2) (fun q => e1 q.1))]; rfl
theorem fm_bit1' {s k : Nat} (hk : k < 32) (h : s < 2147483648) {α : Type} {A B : α} : (if ((nI s >>> (nI k &&& 31)) &&& 1) = 1 then A else B) = if s.testBit k = true then A else B := by
  by_cases b : s.testBit k = true
  · rw [if_pos ((fm_bit1 hk h).mpr b), if_pos b]
  · rw [if_neg (fun z => b ((fm_bit1 hk h).mp z)), if_neg b]
theorem fm_bit0' {s k : Nat} (hk : k < 32) (h : s < 2147483648) {α : Type} {A B : α} : (if ((nI s >>> (nI k &&& 31)) &&& 1) = 0 then A else B) = if s.testBit k = true then B else A := by
  by_cases b : s.testBit k = true
  · rw [if_neg (fun z => by rw [(fm_bit0 hk h).mp z] at b; cases b), if_pos b]
  · rw [if_pos ((fm_bit0 hk h).mpr (by simpa using b)), if_neg b]
theorem fy_close {μ : fw_M} {T : List fm_Ty} {L : fm_Li} {w s p : Nat} (h : hM μ T L w) (wl : wL L) (hw : w ≤ 1) (hp : p < 20) (hs : s < 1024) : f_M_isClose (nI p) (nI s) μ = some (fB (fp_cl L w s p)) := by
  unfold f_M_isClose
  rw [show (0 : Int32) = nI 0 from rfl, fm_rd (by omega) (by omega), fm_bs, h.2.2, fy_beside h.2.1 wl (by omega), fm_bs, nI_1, fm_bit1' (by omega) (by omega)]
  have k1 : nI w = 1 ↔ w = 1 := nI_eq32 (b := 1) (by omega) (by omega)
  simp only [k1]
  unfold fp_cl fp_bs
  by_cases e1 : w = 1
  · by_cases e2 : p + 1 < L.1.length ∧ L.2.testBit p = false
    · by_cases e3 : s.testBit (p + 1) = true
      · rw [if_pos e1, if_pos e2, if_neg (show ¬ (1 : Int32) = nI 0 by decide), if_pos e3, fB1 ⟨e1, e2, e3⟩]; rfl
      · rw [if_pos e1, if_pos e2, if_neg (show ¬ (1 : Int32) = nI 0 by decide), if_neg e3, fB0 (fun z => e3 z.2.2)]; rfl
    · rw [if_pos e1, if_neg e2, if_pos (show (0 : Int32) = nI 0 from rfl), fB0 (fun z => e2 z.2.1)]; rfl
  · rw [if_neg e1, fB0 (fun z => e1 z.1)]; rfl
theorem fy_joins {μ : fw_M} {T : List fm_Ty} {L : fm_Li} {w s t p : Nat} (h : hM μ T L w) (wt : wT2 T) (wl : wL L) (ht : t < T.length) (hp : p < L.1.length) (hs : s < 1024) : f_M_joins (nI t) (nI p) (nI s) μ = some (fB (fp_jn T L t p ∧ fp_bs L p ∧ s.testBit (p + 1) = true)) := by
  have t10 := wt.1
  have l10 := wl.1
  obtain ⟨b1, b2, b3⟩ := h.1.2 t ht
  obtain ⟨c1, c2, c3⟩ := wt.2 t ht
  have b4 := h.2.1.1.2 p hp
  have c4 := wl.2.1 p hp
  have r : ∀ f : Nat → Int32, fw_rd 10 f (nI t) = some (f t) := fun f => fm_rd (by omega) (by omega)
  have r2 : ∀ f : Nat → Int32, fw_rd 10 f (nI p) = some (f p) := fun f => fm_rd (by omega) (by omega)
  have k2 : nI (fm_tt T t).1 = 2 ↔ (fm_tt T t).1 = 2 := nI_eq32 (b := 2) c1 (by omega)
  have k3 : nI (fm_tt T t).2.1 = nI (fm_ll L p) ↔ (fm_tt T t).2.1 = fm_ll L p := nI_eq32 c2 (by omega)
  unfold f_M_joins
  rw [r, fm_bs, b1, fy_beside h.2.1 wl (by omega), fm_bs, nI_1, fm_bit1' (by omega) (by omega), r, fm_bs, r2, fm_bs, b2, b4, r, fm_bs, b3]
  simp only [k2, k3]
  unfold fp_jn fp_bs
  by_cases e1 : (fm_tt T t).1 = 2
  · by_cases e2 : p + 1 < L.1.length ∧ L.2.testBit p = false
    · have b5 := h.2.1.1.2 (p + 1) e2.1
      have c5 := wl.2.1 (p + 1) e2.1
      have k4 : nI (fm_tt T t).2.2 = nI (fm_ll L (p + 1)) ↔ (fm_tt T t).2.2 = fm_ll L (p + 1) := nI_eq32 c3 (by omega)
      rw [if_pos e1, if_pos e2, if_neg fm_n10, fm_rd (by omega) (by omega), fm_bs, b5]
      simp only [k4]
      by_cases e3 : s.testBit (p + 1) = true
      · by_cases e4 : (fm_tt T t).2.1 = fm_ll L p
        · by_cases e5 : (fm_tt T t).2.2 = fm_ll L (p + 1)
          · rw [if_pos e3, if_pos e4, if_pos e5, fB1 ⟨⟨e1, e4, e5⟩, e2, e3⟩]; rfl
          · rw [if_pos e3, if_pos e4, if_neg e5, fB0 (fun z => e5 z.1.2.2)]; rfl
        · rw [if_pos e3, if_neg e4, fB0 (fun z => e4 z.1.2.1)]; rfl
      · rw [if_neg e3, fB0 (fun z => e3 z.2.2)]; rfl
    · rw [if_pos e1, if_neg e2, if_pos rfl, fB0 (fun z => e2 z.2.1)]; rfl
  · rw [if_neg e1, fB0 (fun z => e1 z.1.1)]; rfl
/-! sets of types as numbers -/
theorem fm_or_bit {u t : Nat} : ∀ x, (u ||| 2 ^ t).testBit x = (u.testBit x || decide (x = t)) := by
  intro x
  rw [Nat.testBit_or, Nat.testBit_two_pow]
  congr 1
  exact decide_eq_decide.mpr ⟨fun h => h.symm, fun h => h.symm⟩
theorem fm_or_lt {u t m : Nat} (hu : u < 2 ^ m) (ht : t < m) : u ||| 2 ^ t < 2 ^ m := Nat.or_lt_two_pow hu (Nat.pow_lt_pow_right (by omega) ht)
/-- free: not used -/
def fu (u : Nat) : Nat → Prop := fun x => u.testBit x = false
theorem fu_or {u t : Nat} : fq_no (fu u) t = fu (u ||| 2 ^ t) := by
  funext x
  apply propext
  unfold fq_no fu
  rw [fm_or_bit]
  by_cases e : x = t
  · simp [e]
  · simp [e]
theorem fu_0 : fu 0 = fun _ => True := by
  funext x
  apply propext
  unfold fu
  simp
/-! canBe -/
def fc_m (ν : fw_M) (k q v : Nat) : Prop := ν.1 13 (1024 * q + v) = nI k
/-- marks only come -/
def fc_g (k : Nat) (μ ν : fw_M) : Prop := fm_F [13] μ ν ∧ ∀ i, ν.1 13 i = μ.1 13 i ∨ ν.1 13 i = nI k
theorem fc_g.rf {k : Nat} {μ : fw_M} : fc_g k μ μ := ⟨fm_F.rf, fun _ => Or.inl rfl⟩
theorem fc_g.tr {k : Nat} {μ ν ξ : fw_M} (h : fc_g k μ ν) (h2 : fc_g k ν ξ) : fc_g k μ ξ := ⟨h.1.tr h2.1, fun i => by
  rcases h2.2 i with e | e
  · rcases h.2 i with f | f
    · exact Or.inl (e.trans f)
    · exact Or.inr (e.trans f)
  · exact Or.inr e⟩
theorem fc_g.wr {k i : Nat} {μ ν : fw_M} (h : fc_g k μ ν) : fc_g k μ (fw_wr ν 13 i (nI k)) := ⟨h.1.wr, fun j => by
  by_cases e : j = i
  · right; rw [fm_wr, if_pos ⟨rfl, e⟩]
  · rw [fm_wr, if_neg (fun z => e z.2)]; exact h.2 j⟩
theorem fc_g.up {k q v : Nat} {μ ν : fw_M} (h : fc_g k μ ν) (hm : fc_m μ k q v) : fc_m ν k q v := by
  unfold fc_m at *
  rcases h.2 (1024 * q + v) with e | e
  · rw [e]; exact hm
  · exact e
theorem fc_mw {k q v i : Nat} {ν : fw_M} : fc_m (fw_wr ν 13 i (nI k)) k q v ↔ (fc_m ν k q v ∨ 1024 * q + v = i) := by
  unfold fc_m
  by_cases e : 1024 * q + v = i
  · rw [fm_wr, if_pos ⟨rfl, e⟩]
    exact ⟨fun _ => Or.inr e, fun _ => rfl⟩
  · rw [fm_wr, if_neg (fun z => e z.2)]
    exact ⟨Or.inl, fun h => h.resolve_right e⟩
/-- what is marked leads on -/
def fc_s (al jo : Nat → Nat → Prop) (n m s k : Nat) (ν : fw_M) : Prop := ∀ q v, q ≤ n → v < 2 ^ m → fc_m ν k q v → fq al jo n m s q (fu v) → fq al jo n m s 0 (fu 0)
theorem fc_s.wr {al jo : Nat → Nat → Prop} {n m s k q v : Nat} {ν : fw_M} (h : fc_s al jo n m s k ν) (hm : m ≤ 10) (hv : v < 2 ^ m) (hq : fq al jo n m s q (fu v) → fq al jo n m s 0 (fu 0)) : fc_s al jo n m s k (fw_wr ν 13 (1024 * q + v) (nI k)) := by
  have hp : 2 ^ m ≤ 1024 := fm_pow8 (n := 10) hm
  intro q2 v2 h1 h2 h3 h4
  rcases fc_mw.mp h3 with e | e
  · exact h q2 v2 h1 h2 e h4
  · have e1 : q2 = q := by omega
    have e2 : v2 = v := by omega
    subst e1 e2
    exact hq h4
/-- all that follows a marked one is marked, of the first t types -/
def fc_n (al jo : Nat → Nat → Prop) (k p u t : Nat) (ν : fw_M) : Prop := ∀ x, x < t → u.testBit x = false → (al x p → fc_m ν k (p + 1) (u ||| 2 ^ x)) ∧ (jo x p → fc_m ν k (p + 2) (u ||| 2 ^ x))
theorem fc_n.up {al jo : Nat → Nat → Prop} {k p u t : Nat} {μ ν : fw_M} (h : fc_n al jo k p u t μ) (g : fc_g k μ ν) : fc_n al jo k p u t ν := fun x hx hu => ⟨fun a => g.up ((h x hx hu).1 a), fun a => g.up ((h x hx hu).2 a)⟩
theorem fp_jo_iff {T : List fm_Ty} {L : fm_Li} {w s t p : Nat} : fp_jo T L w s t p ↔ (fp_jn T L t p ∧ fp_bs L p ∧ s.testBit (p + 1) = true) ∧ ¬ fp_cl L w s (p + 1) := ⟨fun h => ⟨⟨h.1, h.2.1, h.2.2.1⟩, h.2.2.2⟩, fun h => ⟨h.1.1, h.1.2.1, h.1.2.2, h.2⟩⟩
theorem fy_can90 {μ : fw_M} {T : List fm_Ty} {L : fm_Li} {w s p u k : Nat} (h : hM μ T L w) (wt : wT2 T) (wl : wL L) (hw : w ≤ 1) (hs : s < 1024) (hp : p < L.1.length) (hu : u < 2 ^ T.length) (hk : μ.1 0 21 = nI k) (hb : s.testBit p = true) (so : fc_s (fp_al T L w s) (fp_jo T L w s) L.1.length T.length s k μ) (hm : fc_m μ k p u) : fm_T (fw_wh (f_M_canBe_L90 (nI s) (nI p) (nI u)) fw_N (0, μ)) (fun ν => fc_g k μ ν ∧ fc_s (fp_al T L w s) (fp_jo T L w s) L.1.length T.length s k ν ∧ (∀ i, i < 1024 * (p + 1) → ν.1 13 i = μ.1 13 i) ∧ fc_n (fp_al T L w s) (fp_jo T L w s) k p u T.length ν) := by
  have t10 := wt.1
  have l10 := wl.1
  have p10 : 2 ^ T.length ≤ 1024 := fm_pow8 (n := 10) t10
  refine fm_up (P := fun t st => st.1 = nI t ∧ fc_g k μ st.2 ∧ fc_s (fp_al T L w s) (fp_jo T L w s) L.1.length T.length s k st.2 ∧ (∀ i, i < 1024 * (p + 1) → st.2.1 13 i = μ.1 13 i) ∧ fc_n (fp_al T L w s) (fp_jo T L w s) k p u t st.2) T.length ?_ ?_ 0 (Nat.zero_le _) ⟨rfl, fc_g.rf, so, fun _ _ => rfl, fun x hx => absurd hx (Nat.not_lt_zero _)⟩ (by omega)
  · rintro t ⟨x, ν⟩ ht ⟨h1, g, so2, lo, nx⟩
    simp only at h1 g so2 lo nx
    subst h1
    have hν := h.c0 g.1
    have kν : ν.1 0 21 = nI k := by rw [g.1.at 0]; exact hk
    have hu2 := fm_or_lt (t := t) hu ht
    unfold f_M_canBe_L90
    try dsimp only
    rw [hν.1.1, if_neg (nI_ge ht (by omega)), fm_bit1' (by omega) (by omega), if_pos hb, fm_nmE, fm_bit0' (by omega) (by omega)]
    by_cases fr : u.testBit t = true
    · rw [if_pos fr, if_pos rfl, fm_bs, if_pos rfl, fm_bs, fm_nm, fm_some, fm_Kl]
      refine ⟨nI_1 t, g, so2, lo, fun x hx hux => ?_⟩
      by_cases e : x = t
      · rw [e, fr] at hux; cases hux
      · exact nx x (by omega) hux
    · have fr0 : u.testBit t = false := by simpa using fr
      rw [if_neg fr, if_neg fm_n10]
      -- alone
      have st1 : fm_T (Option.bind (f_M_prints (nI t) (nI p) ν) fun (p133 : Int32) => if p133 = 0 then some ν else (f_M_isClose (nI p) (nI s) ν).bind fun (p142 : Int32) => if p142 = 0 then (fw_si 11264 ν 13 ((1024 * (nI p + 1)) + (nI u ||| ((1 : Int32) <<< (nI t &&& 31)))) (ν.1 0 21)).bind fun μ170 => some μ170 else some ν) (fun ξ => fc_g k ν ξ ∧ fc_s (fp_al T L w s) (fp_jo T L w s) L.1.length T.length s k ξ ∧ (∀ i, i < 1024 * (p + 1) → ξ.1 13 i = ν.1 13 i) ∧ (fp_al T L w s t p → fc_m ξ k (p + 1) (u ||| 2 ^ t))) := by
        rw [fy_prints hν wt wl ht hp, fm_bs]
        by_cases e1 : fp_pr T L t p
        · rw [fB1 e1, if_neg fm_n10, fy_close hν wl hw (by omega) hs, fm_bs]
          by_cases e2 : fp_cl L w s p
          · rw [fB1 e2, if_neg fm_n10, fm_some]
            exact ⟨fc_g.rf, so2, fun _ _ => rfl, fun a => absurd e2 a.2⟩
          · rw [fB0 e2, if_pos rfl, fm_one (by omega), fm_or, nI_1, show (1024 : Int32) = nI 1024 from rfl, pk_mul, nI_add, fm_si (by omega) (by omega), fm_bs, fm_some, kν]
            refine ⟨fc_g.rf.wr, so2.wr t10 hu2 (fun hq => ?_), fun i hi => by rw [fm_wr, if_neg (by omega)], fun _ => fc_mw.mpr (Or.inr rfl)⟩
            exact so2 p u (by omega) hu (g.up hm) ((fq_st hp).mpr (Or.inr ⟨hb, t, ht, fr0, Or.inl ⟨⟨e1, e2⟩, by rw [fu_or]; exact hq⟩⟩))
        · rw [fB0 e1, if_pos rfl, fm_some]
          exact ⟨fc_g.rf, so2, fun _ _ => rfl, fun a => absurd a.1 e1⟩
      rw [fm_bind]
      refine st1.mono ?_
      intro ξ ⟨g2, so3, lo2, m2⟩
      have hξ := hν.c0 g2.1
      have kξ : ξ.1 0 21 = nI k := by rw [g2.1.at 0]; exact kν
      have st2 : fm_T (Option.bind (f_M_joins (nI t) (nI p) (nI s) ξ) fun (p181 : Int32) => if p181 = 0 then some ξ else (f_M_isClose (nI p + 1) (nI s) ξ).bind fun (p192 : Int32) => if p192 = 0 then (fw_si 11264 ξ 13 ((1024 * (nI p + 2)) + (nI u ||| ((1 : Int32) <<< (nI t &&& 31)))) (ξ.1 0 21)).bind fun μ220 => some μ220 else some ξ) (fun ζ => fc_g k ξ ζ ∧ fc_s (fp_al T L w s) (fp_jo T L w s) L.1.length T.length s k ζ ∧ (∀ i, i < 1024 * (p + 1) → ζ.1 13 i = ξ.1 13 i) ∧ (fp_jo T L w s t p → fc_m ζ k (p + 2) (u ||| 2 ^ t))) := by
        rw [fy_joins hξ wt wl ht hp hs, fm_bs]
        by_cases e1 : fp_jn T L t p ∧ fp_bs L p ∧ s.testBit (p + 1) = true
        · rw [fB1 e1, if_neg fm_n10, nI_1, fy_close hξ wl hw (by omega) hs, fm_bs]
          by_cases e2 : fp_cl L w s (p + 1)
          · rw [fB1 e2, if_neg fm_n10, fm_some]
            exact ⟨fc_g.rf, so3, fun _ _ => rfl, fun a => absurd e2 a.2.2.2⟩
          · have hp2 := e1.2.1.1
            rw [fB0 e2, if_pos rfl, fm_one (by omega), fm_or, show (2 : Int32) = nI 2 from rfl, nI_add, show (1024 : Int32) = nI 1024 from rfl, pk_mul, nI_add, fm_si (by omega) (by omega), fm_bs, fm_some, kξ]
            refine ⟨fc_g.rf.wr, so3.wr t10 hu2 (fun hq => ?_), fun i hi => by rw [fm_wr, if_neg (by omega)], fun _ => fc_mw.mpr (Or.inr rfl)⟩
            exact so3 p u (by omega) hu (g2.up (g.up hm)) ((fq_st hp).mpr (Or.inr ⟨hb, t, ht, fr0, Or.inr ⟨fp_jo_iff.mpr ⟨e1, e2⟩, by omega, by rw [fu_or]; exact hq⟩⟩))
        · rw [fB0 e1, if_pos rfl, fm_some]
          exact ⟨fc_g.rf, so3, fun _ _ => rfl, fun a => absurd (fp_jo_iff.mp a).1 e1⟩
      rw [if_neg fm_n10, fm_bind]
      refine st2.mono ?_
      intro ζ ⟨g3, so4, lo3, m3⟩
      rw [fm_nm, fm_some, fm_Kl]
      refine ⟨nI_1 t, (g.tr g2).tr g3, so4, fun i hi => by rw [lo3 i hi, lo2 i hi, lo i hi], fun x hx hux => ?_⟩
      by_cases e : x = t
      · subst e
        exact ⟨fun a => g3.up (m2 a), m3⟩
      · exact (nx.up (g2.tr g3)) x (by omega) hux
  · rintro ⟨x, ν⟩ ⟨h1, g, so2, lo, nx⟩
    simp only at h1 g so2 lo nx
    subst h1
    unfold f_M_canBe_L90
    try dsimp only
    rw [(h.c0 g.1).1.1, if_pos (nI_le (Nat.le_refl _) (by omega)), fm_some, fm_Kr]
    exact ⟨g, so2, lo, nx⟩
theorem fy_can90n {μ : fw_M} {T : List fm_Ty} {L : fm_Li} {w s p u : Nat} (h : hM μ T L w) (wt : wT2 T) (hs : s < 1024) (hp : p < 10) (hb : s.testBit p = false) : fw_wh (f_M_canBe_L90 (nI s) (nI p) (nI u)) fw_N (0, μ) = some μ := by
  have t10 := wt.1
  apply fm_eq
  refine fm_wh (P := fun i st => st = (0, μ)) ?_ (i := 0) rfl (by omega)
  rintro i _ rfl
  unfold f_M_canBe_L90
  try dsimp only
  by_cases e : T.length = 0
  · rw [h.1.1, e, if_pos (show nI 0 ≤ 0 by decide), fm_some, fm_Kr]
  · rw [h.1.1, if_neg (show ¬ nI T.length ≤ 0 from nI_nle (by omega) (by omega)), fm_bit1' (by omega) (by omega), if_neg (by rw [hb]; decide), fm_some, fm_Kr]
/-- all that a place leads to is marked, for the used ones below u -/
def fc_d (al jo : Nat → Nat → Prop) (m s k p u : Nat) (ν : fw_M) : Prop := ∀ v, v < u → fc_m ν k p v → (s.testBit p = false → fc_m ν k (p + 1) v) ∧ (s.testBit p = true → fc_n al jo k p v m ν)
theorem fy_can32 {μ : fw_M} {T : List fm_Ty} {L : fm_Li} {w s p k : Nat} (h : hM μ T L w) (wt : wT2 T) (wl : wL L) (hw : w ≤ 1) (hs : s < 1024) (hp : p < L.1.length) (hk : μ.1 0 21 = nI k) (kb : k < 2147483648) (kv : ∀ i, i < 11264 → ∃ j : Nat, j ≤ k ∧ μ.1 13 i = nI j) (so : fc_s (fp_al T L w s) (fp_jo T L w s) L.1.length T.length s k μ) : fm_T (fw_wh (f_M_canBe_L32 (nI s) (nI p)) fw_N (0, μ)) (fun ν => fc_g k μ ν ∧ fc_s (fp_al T L w s) (fp_jo T L w s) L.1.length T.length s k ν ∧ (∀ i, i < 1024 * (p + 1) → ν.1 13 i = μ.1 13 i) ∧ fc_d (fp_al T L w s) (fp_jo T L w s) T.length s k p (2 ^ T.length) ν) := by
  have t10 := wt.1
  have l10 := wl.1
  have p10 : 2 ^ T.length ≤ 1024 := fm_pow8 (n := 10) t10
  refine fm_up (P := fun u st => st.1 = nI u ∧ fc_g k μ st.2 ∧ fc_s (fp_al T L w s) (fp_jo T L w s) L.1.length T.length s k st.2 ∧ (∀ i, i < 1024 * (p + 1) → st.2.1 13 i = μ.1 13 i) ∧ fc_d (fp_al T L w s) (fp_jo T L w s) T.length s k p u st.2) (2 ^ T.length) ?_ ?_ 0 (Nat.zero_le _) ⟨rfl, fc_g.rf, so, fun _ _ => rfl, fun v hv => absurd hv (Nat.not_lt_zero _)⟩ (by omega)
  · rintro u ⟨x, ν⟩ hu ⟨h1, g, so2, lo, dn⟩
    simp only at h1 g so2 lo dn
    subst h1
    have hν := h.c0 g.1
    have kν : ν.1 0 21 = nI k := by rw [g.1.at 0]; exact hk
    have keep : ∀ {ξ : fw_M}, fc_g k ν ξ → (∀ i, i < 1024 * (p + 1) → ξ.1 13 i = ν.1 13 i) → fc_d (fp_al T L w s) (fp_jo T L w s) T.length s k p u ξ := fun g2 lo2 v hv hm => by
      have hm2 : fc_m ν k p v := by unfold fc_m at hm ⊢; rw [← lo2 _ (by omega)]; exact hm
      exact ⟨fun b => g2.up ((dn v hv hm2).1 b), fun b => ((dn v hv hm2).2 b).up g2⟩
    unfold f_M_canBe_L32
    try dsimp only
    rw [hν.1.1, fm_one (by omega), if_neg (nI_ge hu (by omega)), show (1024 : Int32) = nI 1024 from rfl, pk_mul, nI_add, fm_rd (by omega) (by omega), fm_bs, kν]
    by_cases mk : ν.1 13 (1024 * p + u) = nI k
    · rw [if_pos mk, fm_bit0' (by omega) (by omega)]
      by_cases hb : s.testBit p = true
      · rw [if_pos hb, fm_bs, fm_bind, fm_bind]
        refine (fy_can90 hν wt wl hw hs hp hu kν hb so2 mk).mono ?_
        intro ξ ⟨g2, so3, lo2, n2⟩
        rw [fm_some, fm_nm, fm_some, fm_Kl]
        refine ⟨nI_1 u, g.tr g2, so3, fun i hi => by rw [lo2 i hi, lo i hi], fun v hv hm => ?_⟩
        by_cases e : v = u
        · subst e
          exact ⟨fun b => (by rw [hb] at b; cases b), fun _ => n2⟩
        · exact keep g2 lo2 v (by omega) hm
      · have hb0 : s.testBit p = false := by simpa using hb
        rw [if_neg hb, nI_1, pk_mul, nI_add, fm_si (by omega) (by omega), fm_bs, fm_bs]
        have g2 : fc_g k ν (fw_wr ν 13 (1024 * (p + 1) + u) (nI k)) := fc_g.rf.wr
        have lo2 : ∀ i, i < 1024 * (p + 1) → (fw_wr ν 13 (1024 * (p + 1) + u) (nI k)).1 13 i = ν.1 13 i := fun i hi => by rw [fm_wr, if_neg (by omega)]
        rw [fy_can90n (hν.c0 g2.1) wt hs (by omega) hb0, fm_bs, fm_bs, fm_nm, fm_some, fm_Kl]
        refine ⟨nI_1 u, g.tr g2, so2.wr t10 hu (fun hq => so2 p u (by omega) hu mk ((fq_st hp).mpr (Or.inl ⟨hb0, hq⟩))), fun i hi => by rw [lo2 i hi, lo i hi], fun v hv hm => ?_⟩
        by_cases e : v = u
        · subst e
          exact ⟨fun _ => fc_mw.mpr (Or.inr rfl), fun b => (by rw [hb0] at b; cases b)⟩
        · exact keep g2 lo2 v (by omega) hm
    · rw [if_neg mk, fm_bs, fm_nm, fm_some, fm_Kl]
      refine ⟨nI_1 u, g, so2, lo, fun v hv hm => ?_⟩
      by_cases e : v = u
      · subst e; exact absurd hm mk
      · exact dn v (by omega) hm
  · rintro ⟨x, ν⟩ ⟨h1, g, so2, lo, dn⟩
    simp only at h1 g so2 lo dn
    subst h1
    unfold f_M_canBe_L32
    try dsimp only
    rw [(h.c0 g.1).1.1, fm_one (by omega), if_pos (nI_le (Nat.le_refl _) (by omega)), fm_some, fm_Kr]
    exact ⟨g, so2, lo, dn⟩
/-- if it can be, a marked one at p, or at p + 1, leads on -/
def fc_c (al jo : Nat → Nat → Prop) (n m s k p : Nat) (ν : fw_M) : Prop := fq al jo n m s 0 (fu 0) → (∃ v, v < 2 ^ m ∧ fc_m ν k p v ∧ fq al jo n m s p (fu v)) ∨ (p + 1 ≤ n ∧ ∃ v, v < 2 ^ m ∧ fc_m ν k (p + 1) v ∧ fq al jo n m s (p + 1) (fu v))
theorem fy_can22 {μ : fw_M} {T : List fm_Ty} {L : fm_Li} {w s k : Nat} (h : hM μ T L w) (wt : wT2 T) (wl : wL L) (hw : w ≤ 1) (hs : s < 1024) (hk : μ.1 0 21 = nI k) (kb : k < 2147483648) (kv : ∀ i, i < 11264 → ∃ j : Nat, j ≤ k ∧ μ.1 13 i = nI j) (so : fc_s (fp_al T L w s) (fp_jo T L w s) L.1.length T.length s k μ) (co : fc_c (fp_al T L w s) (fp_jo T L w s) L.1.length T.length s k 0 μ) : fm_T (fw_wh (f_M_canBe_L22 (nI s)) fw_N (0, μ)) (fun ν => fc_g k μ ν ∧ fc_s (fp_al T L w s) (fp_jo T L w s) L.1.length T.length s k ν ∧ fc_c (fp_al T L w s) (fp_jo T L w s) L.1.length T.length s k L.1.length ν) := by
  have t10 := wt.1
  have l10 := wl.1
  refine fm_up (P := fun p st => st.1 = nI p ∧ fc_g k μ st.2 ∧ fc_s (fp_al T L w s) (fp_jo T L w s) L.1.length T.length s k st.2 ∧ fc_c (fp_al T L w s) (fp_jo T L w s) L.1.length T.length s k p st.2) L.1.length ?_ ?_ 0 (Nat.zero_le _) ⟨rfl, fc_g.rf, so, co⟩ (by omega)
  · rintro p ⟨x, ν⟩ hp ⟨h1, g, so2, co2⟩
    simp only at h1 g so2 co2
    subst h1
    have hν := h.c0 g.1
    have kν : ν.1 0 21 = nI k := by rw [g.1.at 0]; exact hk
    have kv2 : ∀ i, i < 11264 → ∃ j : Nat, j ≤ k ∧ ν.1 13 i = nI j := fun i hi => by
      rcases g.2 i with e | e
      · rw [e]; exact kv i hi
      · exact ⟨k, Nat.le_refl _, e⟩
    unfold f_M_canBe_L22
    try dsimp only
    rw [hν.2.1.1.1, if_neg (nI_ge hp (by omega)), fm_bind]
    refine (fy_can32 hν wt wl hw hs hp kν kb kv2 so2).mono ?_
    intro ξ ⟨g2, so3, lo2, dn⟩
    rw [fm_nm, fm_some, fm_Kl]
    refine ⟨nI_1 p, g.tr g2, so3, fun h0 => ?_⟩
    rcases co2 h0 with ⟨v, hv, hm, hq⟩ | ⟨hp1, v, hv, hm, hq⟩
    · obtain ⟨d1, d2⟩ := dn v hv (g2.up hm)
      rcases (fq_st hp).mp hq with ⟨b, hq2⟩ | ⟨b, t, ht, fr, (⟨a, hq2⟩ | ⟨a, hn, hq2⟩)⟩
      · exact Or.inl ⟨v, hv, d1 b, hq2⟩
      · rw [fu_or] at hq2
        exact Or.inl ⟨_, fm_or_lt hv ht, (d2 b t ht fr).1 a, hq2⟩
      · rw [fu_or] at hq2
        exact Or.inr ⟨by omega, _, fm_or_lt hv ht, (d2 b t ht fr).2 a, hq2⟩
    · exact Or.inl ⟨v, hv, g2.up hm, hq⟩
  · rintro ⟨x, ν⟩ ⟨h1, g, so2, co2⟩
    simp only at h1 g so2 co2
    subst h1
    unfold f_M_canBe_L22
    try dsimp only
    rw [(h.c0 g.1).2.1.1.1, if_pos (nI_le (Nat.le_refl _) (by omega)), fm_some, fm_Kr]
    exact ⟨g, so2, co2⟩
theorem fy_can243 {μ : fw_M} {T : List fm_Ty} {L : fm_Li} {w k : Nat} (h : hM μ T L w) (wt : wT2 T) (wl : wL L) (hk : μ.1 0 21 = nI k) : fw_wh (f_M_canBe_L243 μ) fw_N (0, 0) = some (fB (∃ v, v < 2 ^ T.length ∧ fc_m μ k L.1.length v)) := by
  have t10 := wt.1
  have l10 := wl.1
  have p10 : 2 ^ T.length ≤ 1024 := fm_pow8 (n := 10) t10
  apply fm_eq
  refine fm_up (P := fun u st => st = (fB (∃ v, v < u ∧ fc_m μ k L.1.length v), nI u)) (2 ^ T.length) ?_ ?_ 0 (Nat.zero_le _) (by rw [fB0 (fun ⟨v, hv, _⟩ => absurd hv (Nat.not_lt_zero _))]; rfl) (by omega)
  · rintro u _ hu rfl
    unfold f_M_canBe_L243
    try dsimp only
    rw [h.1.1, fm_one (by omega), if_neg (nI_ge hu (by omega)), h.2.1.1.1, show (1024 : Int32) = nI 1024 from rfl, pk_mul, nI_add, fm_rd (by omega) (by omega), fm_bs, hk]
    by_cases e : ∃ v, v < u ∧ fc_m μ k L.1.length v
    · have e2 : ∃ v, v < u + 1 ∧ fc_m μ k L.1.length v := by obtain ⟨v, a, b⟩ := e; exact ⟨v, by omega, b⟩
      rw [fB1 e, if_neg fm_n10, fm_bs, fm_nm, fm_some, fm_Kl, fB1 e2, nI_1]
    · rw [fB0 e, if_pos rfl]
      by_cases q : μ.1 13 (1024 * L.1.length + u) = nI k
      · rw [if_pos q, fm_bs, fm_nm, fm_some, fm_Kl, fB1 (show ∃ v, v < u + 1 ∧ fc_m μ k L.1.length v from ⟨u, by omega, q⟩), nI_1]
      · rw [if_neg q, fm_bs, fm_nm, fm_some, fm_Kl, fB0 (show ¬ ∃ v, v < u + 1 ∧ fc_m μ k L.1.length v from fun ⟨v, a, b⟩ => by
          by_cases e3 : v = u
          · subst e3; exact q b
          · exact e ⟨v, by omega, b⟩), nI_1]
  · rintro _ rfl
    unfold f_M_canBe_L243
    try dsimp only
    rw [h.1.1, fm_one (by omega), if_pos (nI_le (Nat.le_refl _) (by omega)), fm_some, fm_Kr]
/-- the marks, as a number of marks -/
def rKn (k : Nat) (μ : fw_M) : Prop := μ.1 0 21 = nI k ∧ ∀ i, i < 11264 → ∃ j : Nat, j ≤ k ∧ μ.1 13 i = nI j
theorem fp_can_q {T : List fm_Ty} {L : fm_Li} {w s : Nat} : fp_can T L w s ↔ fq (fp_al T L w s) (fp_jo T L w s) L.1.length T.length s 0 (fu 0) := by
  unfold fp_can fp_P fq
  rw [fu_0]
theorem fy_canBe {μ : fw_M} {T : List fm_Ty} {L : fm_Li} {w s k : Nat} (h : hM μ T L w) (wt : wT2 T) (wl : wL L) (hw : w ≤ 1) (hs : s < 1024) (hk : rKn k μ) (kb : k < 2000000000) : fm_T (f_M_canBe (nI s) μ) (fun p => p.1 = fB (fp_can T L w s) ∧ fm_F [0, 13] μ p.2 ∧ (∀ j, j ≠ 21 → p.2.1 0 j = μ.1 0 j) ∧ rKn (k + 1) p.2) := by
  have t10 := wt.1
  have l10 := wl.1
  have p10 : 2 ^ T.length ≤ 1024 := fm_pow8 (n := 10) t10
  have p1 : 1 ≤ 2 ^ T.length := Nat.one_le_two_pow
  unfold f_M_canBe
  rw [fm_nm, hk.1, nI_1, fm_wr, if_pos ⟨rfl, rfl⟩, show (0 : Int32) = nI 0 from rfl, fm_si (by omega) (by omega), fm_bs]
  generalize hμ : fw_wr (fw_wr μ 0 21 (nI (k + 1))) 13 0 (nI (k + 1)) = μ1
  have F1 : fm_F [0, 13] μ μ1 := by rw [← hμ]; exact (fm_F.rf.wr).wr
  have Z1 : ∀ j, j ≠ 21 → μ1.1 0 j = μ.1 0 j := fun j hj => by rw [← hμ, fm_wrn (by decide), fm_wr, if_neg (fun z => hj z.2)]
  have k1 : μ1.1 0 21 = nI (k + 1) := by rw [← hμ, fm_wrn (by decide), fm_wr, if_pos ⟨rfl, rfl⟩]
  have v1 : ∀ i, μ1.1 13 i = if i = 0 then nI (k + 1) else μ.1 13 i := fun i => by
    rw [← hμ, fm_wr]
    by_cases e : i = 0
    · rw [if_pos ⟨rfl, e⟩, if_pos e]
    · rw [if_neg (fun z => e z.2), if_neg e, fm_wrn (by decide)]
  have h1 := h.cong F1 (Z1 0 (by decide)) (Z1 6 (by decide)) (Z1 8 (by decide))
  have kv : ∀ i, i < 11264 → ∃ j : Nat, j ≤ k + 1 ∧ μ1.1 13 i = nI j := fun i hi => by
    rw [v1]
    by_cases e : i = 0
    · rw [if_pos e]; exact ⟨k + 1, Nat.le_refl _, rfl⟩
    · rw [if_neg e]; obtain ⟨j, a, b⟩ := hk.2 i hi; exact ⟨j, by omega, b⟩
  have only : ∀ q v, q ≤ L.1.length → v < 2 ^ T.length → fc_m μ1 (k + 1) q v → q = 0 ∧ v = 0 := fun q v hq hv hm => by
    unfold fc_m at hm
    rw [v1] at hm
    by_cases e : 1024 * q + v = 0
    · omega
    · rw [if_neg e] at hm
      obtain ⟨j, a, b⟩ := hk.2 (1024 * q + v) (by omega)
      rw [b] at hm
      have := (nI_eq (by omega) (by omega)).mp hm
      omega
  have so : fc_s (fp_al T L w s) (fp_jo T L w s) L.1.length T.length s (k + 1) μ1 := fun q v hq hv hm hh => by
    obtain ⟨e1, e2⟩ := only q v hq hv hm
    subst e1 e2
    exact hh
  have co : fc_c (fp_al T L w s) (fp_jo T L w s) L.1.length T.length s (k + 1) 0 μ1 := fun hh => Or.inl ⟨0, by omega, by unfold fc_m; rw [v1, if_pos rfl], hh⟩
  rw [show (nI 0, μ1) = ((0 : Int32), μ1) from rfl, fm_bind]
  refine (fy_can22 h1 wt wl hw hs k1 (by omega) kv so co).mono ?_
  intro ν ⟨g, so2, co2⟩
  have kν : ν.1 0 21 = nI (k + 1) := by rw [g.1.at 0]; exact k1
  rw [show ((nI 0, nI 0) : Int32 × Int32) = (0, 0) from rfl, fy_can243 (h1.c0 g.1) wt wl kν, fm_bs, fBz, fm_bs, fm_some]
  refine ⟨fBi ?_, F1.tr (g.1.up), fun j hj => by rw [g.1.at 0]; exact Z1 j hj, kν, fun i hi => ?_⟩
  · rw [fp_can_q]
    constructor
    · rintro ⟨v, hv, hm⟩
      exact so2 _ v (Nat.le_refl _) hv hm (fq_end (Nat.le_refl _))
    · intro hh
      rcases co2 hh with ⟨v, hv, hm, _⟩ | ⟨hp, _⟩
      · exact ⟨v, hv, hm⟩
      · omega
  · rcases g.2 i with e | e
    · rw [e]; exact kv i hi
    · exact ⟨k + 1, Nat.le_refl _, e⟩
