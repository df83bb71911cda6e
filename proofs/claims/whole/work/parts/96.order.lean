/-! order: the class weighs -/
theorem fp_Pb {can : Nat → Prop} {P : List Nat} {L : fm_Li} (h : fp_plan can P (fp_all L)) (l10 : L.1.length ≤ 10) {j : Nat} (hj : j < P.length) : P.getD j 0 < 1024 := by
  have h1 := (fp_plan_at P _ h j hj).2
  unfold fs_in at h1
  have h2 : P.getD j 0 &&& fp_all L ≤ fp_all L := Nat.and_le_right
  have h3 : 2 ^ L.1.length ≤ 2 ^ 10 := Nat.pow_le_pow_right (by omega) l10
  have h4 : 0 < 2 ^ L.1.length := Nat.two_pow_pos _
  unfold fp_all at h1 h2
  omega
theorem fx_pullOf {μ : fw_M} {can : Nat → Prop} {P : List Nat} {L : fm_Li} {p : Nat} (h : fp_plan can P (fp_all L)) (l10 : L.1.length ≤ 10) (n6 : P.length ≤ 6) (h3 : μ.1 71 3 = nI P.length) (h82 : ∀ i, i < P.length → μ.1 82 i = nI (P.getD i 0)) (hp : p < L.1.length) : f_Orders_pullOf (nI p) μ = some (nI (po P p)) := by
  obtain ⟨p1, p2⟩ := po_all h hp
  have hT : fm_T (f_Orders_pullOf (nI p) μ) (fun r => r = nI (po P p)) := by
    unfold f_Orders_pullOf
    rw [fm_bind]
    refine fm_wh (P := fun m s => ∃ k, k ≤ po P p ∧ m = P.length - k ∧ s = nI k) ?_ (i := P.length) ⟨0, Nat.zero_le _, rfl, rfl⟩ (by omega)
    rintro m s ⟨k, k1, rfl, rfl⟩
    unfold f_Orders_pullOf_L2
    rw [h3, fm_pred (by omega)]
    by_cases e : P.length - 1 ≤ k
    · rw [if_pos (nI_le e (by omega)), fm_some, fm_Kr]
      simp only
      rw [fm_some]
      congr 1
      omega
    · have hb := fp_Pb h l10 (show k < P.length by omega)
      rw [if_neg (nI_ge (by omega) (by omega)), fm_rd (by omega) (by omega), fm_bs, h82 k (by omega), fm_inSet (by omega) (by omega), fm_bs]
      by_cases b : (P.getD k 0).testBit p = true
      · rw [if_pos b, if_neg fm_n10, fm_some, fm_Kr]
        simp only
        rw [fm_some, (p2 k (by omega)).mp b]
      · rw [if_neg b, if_pos rfl, fm_nm, fm_some, fm_Kl]
        have ne : ¬ k = po P p := fun z => b ((p2 k (by omega)).mpr z)
        exact ⟨P.length - (k + 1), by omega, k + 1, by omega, rfl, nI_1 k⟩
  obtain ⟨r, e, rfl⟩ := hT
  exact e
def xG (μ : fw_M) (G : Nat → Nat → Nat → Nat) : Prop := ∀ a b c, a < 6 → b < 6 → c < 6 → μ.1 72 ((a * 6 + b) * 6 + c) = nI (G a b c)
/-- the class's line and widths, as an order needs them -/
def xO (μ : fw_M) (L : fm_Li) (wd : Nat → Nat) (cr : Nat) : Prop := xL 6 μ L ∧ (∀ i, i < 12 → μ.1 8 i = nI (wd i)) ∧ μ.1 9 1 = nI cr
theorem xO.F {l : List Nat} {μ ν : fw_M} {L : fm_Li} {wd : Nat → Nat} {cr : Nat} (h : xO μ L wd cr) (F : fm_F l μ ν) (d : fm_no l [6, 7, 8, 9] := by decide) : xO ν L wd cr := by
  refine ⟨h.1.cong (F 6 (fm_no_at d (by decide))) (F 7 (fm_no_at d (by decide))), ?_, ?_⟩
  · rw [F 8 (fm_no_at d (by decide))]; exact h.2.1
  · rw [F 9 (fm_no_at d (by decide))]; exact h.2.2
def opi (lf w : Nat → Nat) (cr s f p q c0 a b c : Nat) : Nat := if a = s ∧ b = f ∧ (1 ≤ c ∧ c < c0) ∧ ov lf w cr p q c then 1 else 0
theorem opi_no {lf w : Nat → Nat} {cr s f p q c0 a b c : Nat} (h : ¬ (a = s ∧ b = f ∧ c = c0 ∧ ov lf w cr p q c0)) : opi lf w cr s f p q (c0 + 1) a b c = opi lf w cr s f p q c0 a b c := by
  unfold opi
  by_cases y : a = s ∧ b = f ∧ (1 ≤ c ∧ c < c0) ∧ ov lf w cr p q c
  · rw [if_pos y, if_pos ⟨y.1, y.2.1, ⟨y.2.2.1.1, by have := y.2.2.1.2; omega⟩, y.2.2.2⟩]
  · rw [if_neg y, if_neg]
    rintro ⟨y1, y2, y3, y4⟩
    by_cases e : c = c0
    · exact h ⟨y1, y2, e, by rw [← e]; exact y4⟩
    · exact y ⟨y1, y2, ⟨y3.1, by omega⟩, y4⟩
theorem fx_wpair {μ : fw_M} {L : fm_Li} {wd : Nat → Nat} {cr N p q s f : Nat} {G : Nat → Nat → Nat → Nat} (h : xO μ L wd cr) (wl : wL L) (ww : wW wd) (c3 : cr ≤ 3) (n1 : 1 ≤ N) (n6 : N ≤ 6) (h3 : μ.1 71 3 = nI N) (hp : p < L.1.length) (hq : q < L.1.length) (hs : s < N) (hf : f < N) (g : xG μ G) : fm_T (f_Orders_weighPair (nI p) (nI q) (nI f) (nI s) μ) (fun ν => fm_F [72] μ ν ∧ xG ν (fun a b c => G a b c + opi (fm_lf L wd) (fun p => wd (fm_ll L p)) cr s f p q N a b c)) := by
  have l10 := wl.1
  have rp : ∀ p, p < L.1.length → μ.1 7 p = nI (fm_ll L p) := fun p hp => h.1.1.2 p hp
  have lp := wl.2.1 p hp
  have lq := wl.2.1 q hq
  have bp := fm_lf_le wl ww p (by omega)
  have bq := fm_lf_le wl ww q (by omega)
  have wp := (ww _ lp).2
  have wq := (ww _ lq).2
  unfold f_Orders_weighPair
  rw [fx_left h.1 wl h.2.1 hp, fm_bs, fm_rd (by omega) (by omega), fm_bs, rp p hp, fm_rd lp (by omega), fm_bs, h.2.1 _ lp, fm_nm, nI_add, fx_left h.1 wl h.2.1 hq, fm_bs, fm_rd (by omega) (by omega), fm_bs, rp q hq, fm_rd lq (by omega), fm_bs, h.2.1 _ lq, fm_nm, nI_add, fm_bind]
  refine fm_up (P := fun c0 st => 1 ≤ c0 ∧ st.1 = nI c0 ∧ fm_F [72] μ st.2 ∧ xG st.2 (fun a b c => G a b c + opi (fm_lf L wd) (fun p => wd (fm_ll L p)) cr s f p q c0 a b c)) N ?_ ?_ 1 n1 ⟨Nat.le_refl _, rfl, fm_F.rf, fun a b c ha hb hc => ?_⟩ (by omega)
  · rintro c0 ⟨x, ν⟩ hc0 ⟨c01, e1, F, g1⟩
    simp only at e1 F g1
    subst e1
    unfold f_Orders_weighPair_L69
    try dsimp only
    have cb : c0 * cr ≤ 6 * 3 := Nat.mul_le_mul (by omega) c3
    rw [F.at 71, h3, if_neg (nI_ge hc0 (by omega)), show fw_rd 3 (ν.1 9) 1 = some (ν.1 9 1) from fm_rd (j := 1) (by omega) (by omega), fm_bs, F.at 9, h.2.2, pk_mul, fm_nm, nI_add, nI_add]
    have skip : ¬ ov (fm_lf L wd) (fun p => wd (fm_ll L p)) cr p q c0 → xG ν (fun a b c => G a b c + opi (fm_lf L wd) (fun p => wd (fm_ll L p)) cr s f p q (c0 + 1) a b c) := fun no a b c ha hb hc => by
      refine (g1 a b c ha hb hc).trans ?_
      show nI (G a b c + _) = nI (G a b c + _)
      rw [opi_no (fun z => no z.2.2.2)]
    by_cases o1 : fm_lf L wd q + wd (fm_ll L q) ≤ fm_lf L wd p + c0 * cr
    · rw [if_pos (nI_le o1 (by omega)), fm_bs, fm_nm, fm_some, fm_Kl]
      refine ⟨by omega, nI_1 c0, F, skip (fun y => ?_)⟩
      have y5 : fm_lf L wd p + c0 * cr < fm_lf L wd q + wd (fm_ll L q) := y.1
      omega
    · rw [if_neg (nI_ge (by omega) (by omega))]
      by_cases o2 : fm_lf L wd p + wd (fm_ll L p) + c0 * cr ≤ fm_lf L wd q
      · rw [if_pos (nI_le o2 (by omega)), fm_bs, fm_nm, fm_some, fm_Kl]
        refine ⟨by omega, nI_1 c0, F, skip (fun y => ?_)⟩
        have y5 : fm_lf L wd q < fm_lf L wd p + wd (fm_ll L p) + c0 * cr := y.2
        omega
      · have lt : (s * 6 + f) * 6 + c0 < 216 := by omega
        unfold f_Orders_slot
        rw [if_neg (nI_ge (by omega) (by omega)), show (6 : Int32) = nI 6 from rfl, pk_mul, nI_add, pk_mul, nI_add, fm_bs, fm_rd lt (by omega), fm_bs, fm_si lt (by omega), fm_bs, fm_bs, fm_nm, fm_some, fm_Kl]
        refine ⟨by omega, nI_1 c0, F.wr, fun a b c ha hb hc => ?_⟩
        by_cases e : a = s ∧ b = f ∧ c = c0
        · obtain ⟨rfl, rfl, rfl⟩ := e
          rw [fm_wr, if_pos ⟨rfl, rfl⟩, g1 a b c ha hb hc]
          show nI (G a b c + opi _ _ _ _ _ _ _ c a b c) + 1 = nI (G a b c + opi _ _ _ _ _ _ _ (c + 1) a b c)
          unfold opi
          rw [if_neg (by omega), if_pos, nI_1]
          exact ⟨rfl, rfl, ⟨by omega, by omega⟩, by show fm_lf L wd p + c * cr < fm_lf L wd q + wd (fm_ll L q); omega, by show fm_lf L wd q < fm_lf L wd p + wd (fm_ll L p) + c * cr; omega⟩
        · rw [fm_wr, if_neg (fun z => e (by have := z.2; omega)), g1 a b c ha hb hc]
          show nI (G a b c + _) = nI (G a b c + _)
          rw [opi_no (fun z => e ⟨z.1, z.2.1, z.2.2.1⟩)]
  · rintro ⟨x, ν⟩ ⟨_, e1, F, g1⟩
    simp only at e1 F g1
    subst e1
    unfold f_Orders_weighPair_L69
    try dsimp only
    rw [F.at 71, h3, if_pos (nI_le (Nat.le_refl _) (by omega)), fm_some, fm_Kr, fm_some]
    exact ⟨F, g1⟩
  · rw [g a b c ha hb hc]
    show nI (G a b c) = nI (G a b c + opi _ _ _ _ _ _ _ 1 a b c)
    unfold opi
    rw [if_neg (fun z => by have := z.2.2.1; omega), Nat.add_zero]
theorem fx_weigh {μ : fw_M} {can : Nat → Prop} {P : List Nat} {L : fm_Li} {wd : Nat → Nat} {cr : Nat} (pl : fp_plan can P (fp_all L)) (h : xO μ L wd cr) (wl : wL L) (ww : wW wd) (c3 : cr ≤ 3) (n1 : 1 ≤ P.length) (n6 : P.length ≤ 6) (h82 : ∀ i, i < P.length → μ.1 82 i = nI (P.getD i 0)) : fm_T (f_Orders_weigh (nI P.length) μ) (fun ν => fm_F [71, 72] μ ν ∧ ν.1 71 3 = nI P.length ∧ xWt ν (oW (fm_lf L wd) (fun p => wd (fm_ll L p)) (po P) cr P.length L.1.length) P.length) := by
  have l10 := wl.1
  unfold f_Orders_weigh
  rw [if_neg (show ¬ (6 : Int32) < nI P.length from fun z => by have := (nI_ltI (a := 6) (by omega) (by omega)).mp z; omega), fm_nm, fm_bind]
  refine (fh_fill (k := 72) (n := 216) rfl (by omega)).mono ?_
  intro ν ⟨F0, _, z0⟩
  have F : fm_F [71, 72] μ ν := (fm_F.rf.wr).tr F0.up
  have e3 : ν.1 71 3 = nI P.length := by rw [F0.at 71, fm_wr, if_pos ⟨rfl, rfl⟩]
  have g0 : xG ν (fun _ _ _ => 0) := fun a b c ha hb hc => z0 _ (by omega)
  rw [fm_bind]
  generalize hlf : fm_lf L wd = lf
  generalize hw : (fun p => wd (fm_ll L p)) = w
  refine fm_up (P := fun p s => s.1 = nI p ∧ fm_F [72] ν s.2 ∧ xG s.2 (fun a b c => fm_su (fun p => fm_su (fun q => oind lf w (po P) cr P.length a b c p q) L.1.length) p)) L.1.length ?_ ?_ 0 (Nat.zero_le _) ⟨rfl, fm_F.rf, g0⟩ (by omega)
  · rintro p ⟨x, ξ⟩ hp ⟨e1, G, g1⟩
    simp only at e1 G g1
    subst e1
    unfold f_Orders_weigh_L21
    try dsimp only
    have FX : fm_F [71, 72] μ ξ := F.tr G.up
    have s6 : ξ.1 6 1 = nI L.1.length := by rw [FX.at 6]; exact h.1.1.1
    rw [s6, if_neg (nI_ge hp (by omega)), fm_nm, nI_1, fm_bind]
    refine fm_up (P := fun q s => p < q ∧ s.1 = nI q ∧ fm_F [72] ν s.2 ∧ xG s.2 (fun a b c => fm_su (fun p => fm_su (fun q => oind lf w (po P) cr P.length a b c p q) L.1.length) p + fm_su (fun q => oind lf w (po P) cr P.length a b c p q) q)) L.1.length ?_ ?_ (p + 1) (by omega) ⟨by omega, rfl, G, fun a b c ha hb hc => ?_⟩ (by omega)
    · rintro q ⟨x, o⟩ hq ⟨hpq, e1, O, g2⟩
      simp only at e1 O g2
      subst e1
      unfold f_Orders_weigh_L39
      try dsimp only
      have FO : fm_F [71, 72] μ o := F.tr O.up
      have o3 : o.1 71 3 = nI P.length := by rw [O.at 71]; exact e3
      have o82 : ∀ i, i < P.length → o.1 82 i = nI (P.getD i 0) := fun i hi => by rw [FO.at 82]; exact h82 i hi
      have pp := (po_all pl hp).1
      have pq := (po_all pl hq).1
      rw [FO.at 6, h.1.1.1, if_neg (nI_ge hq (by omega)), fx_pullOf pl l10 n6 o3 o82 hp, fm_bs, fx_pullOf pl l10 n6 o3 o82 hq, fm_bs]
      by_cases e : po P p = po P q
      · rw [if_pos (by rw [e]), fm_bs, fm_nm, fm_some, fm_Kl]
        refine ⟨by omega, nI_1 q, O, fun a b c ha hb hc => (g2 a b c ha hb hc).trans ?_⟩
        show nI (_ + fm_su _ q) = nI (_ + (fm_su _ q + oind lf w (po P) cr P.length a b c p q))
        have : oind lf w (po P) cr P.length a b c p q = 0 := by
          unfold oind
          rw [if_neg (fun z => z.2.2.2.1 (by rw [← z.2.1, ← z.2.2.1, e]))]
        rw [this, Nat.add_zero]
      · rw [if_neg (fun z => e ((nI_eq (by omega) (by omega)).mp z)), fm_bind, fm_bind]
        refine (fx_wpair (h.F FO) wl ww c3 n1 n6 o3 hp hq pq pp g2).mono ?_
        intro y ⟨Y, gy⟩
        rw [hlf, hw] at gy
        rw [fm_some, fm_nm, fm_some, fm_Kl]
        refine ⟨by omega, nI_1 q, O.tr Y, fun a b c ha hb hc => (gy a b c ha hb hc).trans ?_⟩
        show nI (_ + fm_su _ q + opi lf w cr (po P q) (po P p) p q P.length a b c) = nI (_ + (fm_su _ q + oind lf w (po P) cr P.length a b c p q))
        have : opi lf w cr (po P q) (po P p) p q P.length a b c = oind lf w (po P) cr P.length a b c p q := by
          unfold opi oind
          by_cases y : a = po P q ∧ b = po P p ∧ (1 ≤ c ∧ c < P.length) ∧ ov lf w cr p q c
          · rw [if_pos y, if_pos ⟨hpq, y.1.symm, y.2.1.symm, by rw [y.1, y.2.1]; exact fun z => e z.symm, y.2.2⟩]
          · rw [if_neg y, if_neg (fun z => y ⟨z.2.1.symm, z.2.2.1.symm, z.2.2.2.2⟩)]
        rw [this, Nat.add_assoc]
    · rintro ⟨x, o⟩ ⟨_, e1, O, g2⟩
      simp only at e1 O g2
      subst e1
      unfold f_Orders_weigh_L39
      try dsimp only
      have FO : fm_F [71, 72] μ o := F.tr O.up
      rw [FO.at 6, h.1.1.1, if_pos (nI_le (Nat.le_refl _) (by omega)), fm_some, fm_Kr, fm_nm, fm_some, fm_Kl]
      exact ⟨rfl, O, g2⟩
    · refine (g1 a b c ha hb hc).trans ?_
      show nI (fm_su _ p) = nI (fm_su _ p + fm_su (fun q => oind lf w (po P) cr P.length a b c p q) (p + 1))
      have := fm_su_b (g := fun q => oind lf w (po P) cr P.length a b c p q) (b := 0) (p + 1) (fun q hq => by unfold oind; rw [if_neg (by omega)]; exact Nat.le_refl _)
      rw [show fm_su (fun q => oind lf w (po P) cr P.length a b c p q) (p + 1) = 0 by omega, Nat.add_zero]
  · rintro ⟨x, ξ⟩ ⟨e1, G, g1⟩
    simp only at e1 G g1
    subst e1
    unfold f_Orders_weigh_L21
    try dsimp only
    have FX : fm_F [71, 72] μ ξ := F.tr G.up
    rw [FX.at 6, h.1.1.1, if_pos (nI_le (Nat.le_refl _) (by omega)), fm_some, fm_Kr, fm_some]
    exact ⟨FX, by rw [G.at 71]; exact e3, fun a b c ha hb hc => g1 a b c (by omega) (by omega) (by omega)⟩
