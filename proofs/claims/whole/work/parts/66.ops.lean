/-! parts of the state, cell by cell -/
abbrev fm_no (l m : List Nat) : Prop := (m.all fun q => !(l.contains q)) = true
theorem fm_no_at {l m : List Nat} (h : fm_no l m) {k : Nat} (hk : k ∈ m) : k ∉ l := by
  have := List.all_eq_true.mp h k hk
  simpa using this
theorem cT {l : List Nat} {μ ν : fw_M} {T : List fm_Ty} (h : rT (μ.1 2 3) (μ.1 3) (μ.1 4) (μ.1 5) T) (hF : fm_F l μ ν) (d : fm_no l [2, 3, 4, 5] := by decide) : rT (ν.1 2 3) (ν.1 3) (ν.1 4) (ν.1 5) T := by
  rw [hF 2 (fm_no_at d (by decide)), hF 3 (fm_no_at d (by decide)), hF 4 (fm_no_at d (by decide)), hF 5 (fm_no_at d (by decide))]
  exact h
theorem cL {l : List Nat} {μ ν : fw_M} {L : fm_Li} (h : xL 6 μ L) (hF : fm_F l μ ν) (d : fm_no l [6, 7] := by decide) : xL 6 ν L := h.cong (hF 6 (fm_no_at d (by decide))) (hF 7 (fm_no_at d (by decide)))
theorem cW {l : List Nat} {μ ν : fw_M} {w : Nat → Nat} (h : ∀ i, i < 12 → μ.1 8 i = nI (w i)) (hF : fm_F l μ ν) (d : fm_no l [8] := by decide) : ∀ i, i < 12 → ν.1 8 i = nI (w i) := by
  rw [hF 8 (fm_no_at d (by decide))]
  exact h
theorem cR {l : List Nat} {μ ν : fw_M} {w : Nat → Nat} (h : ∀ i, i < 3 → μ.1 9 i = nI (w i)) (hF : fm_F l μ ν) (d : fm_no l [9] := by decide) : ∀ i, i < 3 → ν.1 9 i = nI (w i) := by
  rw [hF 9 (fm_no_at d (by decide))]
  exact h
theorem cX {l : List Nat} {μ ν : fw_M} {X : List (Nat × fm_Li)} (h : xX 1 μ X) (hF : fm_F l μ ν) (hX : X.length ≤ 8) (h1 : ν.1 1 6 = μ.1 1 6) (d : (l.all fun q => decide (q < 11 ∨ 27 < q)) = true := by decide) : xX 1 ν X := by
  have hr : ∀ k, 11 ≤ k → k ≤ 27 → ν.1 k = μ.1 k := hF.rg 11 27 d
  refine ⟨h1.trans h.1, fun t ht => ⟨(h.2 t ht).1.cong (hr _ (by omega) (by omega)) (hr _ (by omega) (by omega)), ?_⟩⟩
  rw [hr (1 + 26) (by omega) (by omega)]
  exact (h.2 t ht).2
theorem cJ {l : List Nat} {μ ν : fw_M} {J : List (Nat × Nat)} (h : rJ (μ.1 28 3) (μ.1 29) (μ.1 30) J) (hF : fm_F l μ ν) (d : fm_no l [28, 29, 30] := by decide) : rJ (ν.1 28 3) (ν.1 29) (ν.1 30) J := by
  rw [hF 28 (fm_no_at d (by decide)), hF 29 (fm_no_at d (by decide)), hF 30 (fm_no_at d (by decide))]
  exact h
theorem dT {l : List Nat} {μ ν : fw_M} {T : List fm_Ty} (h : rT (μ.1 0 0) (μ.1 1) (μ.1 2) (μ.1 3) T) (hF : fm_F l μ ν) (hz : ν.1 0 0 = μ.1 0 0) (d : fm_no l [1, 2, 3] := by decide) : rT (ν.1 0 0) (ν.1 1) (ν.1 2) (ν.1 3) T := by
  rw [hz, hF 1 (fm_no_at d (by decide)), hF 2 (fm_no_at d (by decide)), hF 3 (fm_no_at d (by decide))]
  exact h
theorem dL {l : List Nat} {μ ν : fw_M} {L : fm_Li} (h : rL (μ.1 0 6) (μ.1 6) L ∧ μ.1 0 8 = nI L.2) (hF : fm_F l μ ν) (h6 : ν.1 0 6 = μ.1 0 6) (h8 : ν.1 0 8 = μ.1 0 8) (d : fm_no l [6] := by decide) : rL (ν.1 0 6) (ν.1 6) L ∧ ν.1 0 8 = nI L.2 := by
  rw [h6, h8, hF 6 (fm_no_at d (by decide))]
  exact h
theorem dW {l : List Nat} {μ ν : fw_M} {w : Nat → Nat} (h : ∀ i, i < 12 → μ.1 4 i = nI (w i)) (hF : fm_F l μ ν) (d : fm_no l [4] := by decide) : ∀ i, i < 12 → ν.1 4 i = nI (w i) := by
  rw [hF 4 (fm_no_at d (by decide))]
  exact h
theorem dR {l : List Nat} {μ ν : fw_M} {w : Nat → Nat} (h : ∀ i, i < 3 → μ.1 5 i = nI (w i)) (hF : fm_F l μ ν) (d : fm_no l [5] := by decide) : ∀ i, i < 3 → ν.1 5 i = nI (w i) := by
  rw [hF 5 (fm_no_at d (by decide))]
  exact h
theorem dX {l : List Nat} {μ ν : fw_M} {X : List (Nat × fm_Li)} (h : mX μ.1 X) (hF : fm_F l μ ν) (h9 : ν.1 0 9 = μ.1 0 9) (d : fm_no l [7] := by decide) : mX ν.1 X := h.cong h9 (hF 7 (fm_no_at d (by decide)))
theorem dJ {l : List Nat} {μ ν : fw_M} {J : List (Nat × Nat)} (h : rJ (μ.1 0 11) (μ.1 8) (μ.1 9) J) (hF : fm_F l μ ν) (hz : ν.1 0 11 = μ.1 0 11) (d : fm_no l [8, 9] := by decide) : rJ (ν.1 0 11) (ν.1 8) (ν.1 9) J := by
  rw [hz, hF 8 (fm_no_at d (by decide)), hF 9 (fm_no_at d (by decide))]
  exact h
/-- the core has changed, nothing else -/
theorem fm_mk {n : Nat} {μx μm νx νm : fw_M} {C : fm_C} {lx lm : List Nat} (wc : wC C) (xs : xS 1 νx C) (ms : mS νm.1 C) (kp : fm_kept νx C) (im : fm_ima μx μm) (tp : fm_tape μx μm) (sh : ∀ s, s < 4 → rH μx μm s) (rk : rK (n + 1) νm) (hF : fm_F lx μx νx) (hG : fm_F lm μm νm) (h15 : νm.1 0 15 = μm.1 0 15) (h32 : νm.1 0 32 = μm.1 0 32) (dx : (lx.all fun q => decide (1 ≤ q ∧ q ≤ 31 ∨ 65 ≤ q ∧ q ≤ 85)) = true := by decide) (dm : (lm.all fun q => decide (q ≤ 9 ∨ 11 ≤ q ∧ q ≤ 22 ∨ q = 27)) = true := by decide) : fm_I (n + 1) νx νm := by
  have ax : ∀ k, ¬ (1 ≤ k ∧ k ≤ 31 ∨ 65 ≤ k ∧ k ≤ 85) → νx.1 k = μx.1 k := fun k hk => hF k (fun hm => hk (of_decide_eq_true (List.all_eq_true.mp dx k hm)))
  have am : ∀ k, ¬ (k ≤ 9 ∨ 11 ≤ k ∧ k ≤ 22 ∨ k = 27) → νm.1 k = μm.1 k := fun k hk => hG k (fun hm => hk (of_decide_eq_true (List.all_eq_true.mp dm k hm)))
  exact ⟨⟨C, wc, xs, ms, kp⟩, im.cong (ax 0 (by omega)) (fun k h1 h2 => ax k (by omega)) h32 (am 23 (by omega)), tp.cong (by rw [ax 63 (by omega)]) (ax 64 (by omega)) h15 (am 10 (by omega)), fm_sheets sh (fun k h1 h2 => ax k (by omega)) (am 24 (by omega)) (am 25 (by omega)) (am 26 (by omega)), rk⟩
theorem rK.st {n : Nat} {l : List Nat} {μ ν : fw_M} (h : rK n μ) (hF : fm_F l μ ν) (hz : ν.1 0 21 = μ.1 0 21) (d : fm_no l [13] := by decide) : rK (n + 1) ν := (h.cong hz (hF 13 (fm_no_at d (by decide)))).up (by omega)
theorem fm_F.z {l : List Nat} {μ ν : fw_M} (hF : fm_F l μ ν) (j : Nat) (d : fm_no l [0] := by decide) : ν.1 0 j = μ.1 0 j := by rw [hF 0 (fm_no_at d (by decide))]
theorem fm_F.c1 {l : List Nat} {μ ν : fw_M} (hF : fm_F l μ ν) (d : fm_no l [1] := by decide) : ν.1 1 6 = μ.1 1 6 := by rw [hF 1 (fm_no_at d (by decide))]
/-! ranges as the class tests them -/
theorem fh_r1 {α : Type} {a lo hi : Int32} {A B : α} (h : lo ≤ a ∧ a ≤ hi) : (if a < lo then A else if a ≤ hi then B else A) = B := by
  rw [if_neg (Int32.not_lt.mpr h.1), if_pos h.2]
theorem fh_r0 {α : Type} {a lo hi : Int32} {A B : α} (h : ¬ (lo ≤ a ∧ a ≤ hi)) : (if a < lo then A else if a ≤ hi then B else A) = A := by
  by_cases h1 : a < lo
  · rw [if_pos h1]
  · rw [if_neg h1, if_neg (fun h2 => h ⟨Int32.not_lt.mp h1, h2⟩)]
theorem fh_s1 {α : Type} {a lo hi : Int32} {A B : α} (h : lo ≤ a ∧ a ≤ hi) : (if a < lo then A else if hi < a then A else B) = B := by
  rw [if_neg (Int32.not_lt.mpr h.1), if_neg (Int32.not_lt.mpr h.2)]
theorem fh_s0 {α : Type} {a lo hi : Int32} {A B : α} (h : ¬ (lo ≤ a ∧ a ≤ hi)) : (if a < lo then A else if hi < a then A else B) = A := by
  by_cases h1 : a < lo
  · rw [if_pos h1]
  · rw [if_neg h1, if_pos (Int32.not_le.mp (fun h2 => h ⟨Int32.not_lt.mp h1, h2⟩))]
theorem fh_t1 {α : Type} {a lo hi : Int32} {A B : α} (h : lo ≤ a ∧ a < hi) : (if a < lo then A else if hi ≤ a then A else B) = B := by
  rw [if_neg (Int32.not_lt.mpr h.1), if_neg (Int32.not_le.mpr h.2)]
theorem fh_t0 {α : Type} {a lo hi : Int32} {A B : α} (h : ¬ (lo ≤ a ∧ a < hi)) : (if a < lo then A else if hi ≤ a then A else B) = A := by
  by_cases h1 : a < lo
  · rw [if_pos h1]
  · rw [if_neg h1, if_pos (Int32.not_lt.mp (fun h2 => h ⟨Int32.not_lt.mp h1, h2⟩))]
theorem fh_b2 {a lo hi : Int32} : (fw_nm (if a < lo then (0 : Int32) else if hi ≤ a then 0 else 1) fun (j : Int32) => (fw_bz j).bind fun b => some b) = some (if lo ≤ a ∧ a < hi then 1 else 0) := by
  by_cases h : lo ≤ a ∧ a < hi
  · rw [fh_t1 h, if_pos h]; rfl
  · rw [fh_t0 h, if_neg h]; rfl
theorem fh_isSense (a : Int32) : f_X_isSense a = some (if 0 ≤ a ∧ a < 4 then 1 else 0) := fh_b2
theorem fh_isSheet (a : Int32) : f_X_isSheet a = some (if 0 ≤ a ∧ a < 4 then 1 else 0) := fh_b2
theorem fh_isLane (a : Int32) : f_X_isLane a = some (if 0 ≤ a ∧ a < 3 then 1 else 0) := fh_b2
theorem fh_hasText (a : Int32) (μ : fw_M) : f_Shop_hasText_1 a μ = some (if 0 ≤ a ∧ a < μ.1 1 6 then 1 else 0) := fh_b2
theorem fh_ok6 : fw_okL 6 := ⟨rfl, rfl⟩
theorem fh_lhas (a : Int32) (μ : fw_M) : f_Line_has 6 a μ = some (if 0 ≤ a ∧ a < μ.1 6 1 then 1 else 0) := by
  unfold f_Line_has
  rw [if_pos fh_ok6]
  exact fh_b2
theorem fh_inN {a : Int32} {c : Int64} (n : Nat) (hc : c = (nD n).toInt64) (hn : n < 2147483648) : f_M_in a.toInt64 0 c = some (if 0 ≤ a ∧ a < nI n then 1 else 0) := by
  rw [fh_in (b := 0) (c := c) (lo := 0) (hi := nD n) rfl hc]
  simp only [fh_ltD hn]
theorem fh_isSheetM (a : Int32) : f_M_isSheet a = some (if 0 ≤ a ∧ a < 4 then 1 else 0) := by
  unfold f_M_isSheet
  rw [fh_inN (c := 3) 4 rfl (by omega), fm_bs, fh_bz, fm_bs]
  rfl
theorem fh_isLaneM (a : Int32) : f_M_isLane a = some (if 0 ≤ a ∧ a < 3 then 1 else 0) := by
  unfold f_M_isLane
  rw [fh_inN (c := 2) 3 rfl (by omega), fm_bs, fh_bz, fm_bs]
  rfl
theorem fh_cs4 {s : Nat} (h : s < 4) : 0 ≤ nI s ∧ nI s < 4 := fh_csI (n := 4) (by omega) h
theorem fh_nge {c : Int32} {a b : Nat} (hc : c = nI b) (h : a < b) (hb : b < 2147483648) : ¬ c ≤ nI a := by subst hc; exact nI_ge h hb
theorem fh_lt {c : Int32} {a b : Nat} (hc : c = nI b) (h : a < b) (hb : b < 2147483648) : nI a < c := by subst hc; exact nI_lt h hb
theorem fm_eq {α : Type} {x : Option α} {v : α} (h : fm_T x (fun r => r = v)) : x = some v := by
  obtain ⟨a, e, rfl⟩ := h
  exact e
/-! width, rule -/
theorem fo_width : fw_O_width fm_I := by
  intro n μx μm hn hI a1 a2
  have hI2 := hI.up
  obtain ⟨⟨C, wc, xs, ms, kp⟩, im, tp, sh, rk⟩ := hI
  unfold f_X_width f_M_width
  rw [fh_isLetter, fh_isLetterM]
  by_cases h : 0 ≤ a1 ∧ a1 < 12
  · rw [if_pos h, fm_bs, fm_bs, if_neg fm_n10, if_neg fm_n10, fh_in (a := a2) (b := 1) (c := 4) (lo := 1) (hi := 4) rfl rfl]
    by_cases h2 : 1 ≤ a2 ∧ a2 ≤ 4
    · rw [fh_r1 h2, if_pos h2, fm_bs, if_neg fm_n10]
      obtain ⟨j, hj, rfl⟩ := fh_cs (n := 12) (by omega) h
      obtain ⟨v, hv1, hv2, rfl⟩ := fh_cl (l := 1) (n := 4) rfl rfl (by omega) (by omega) h2
      have hx : μx.1 8 j = nI (C.2.2.1 j) := xs.2.2.1 j hj
      have hm : μm.1 4 j = nI (C.2.2.1 j) := ms.2.2.1 j hj
      rw [fm_rd hj (by omega), fm_rd hj (by omega), fm_bs, fm_bs, fm_si hj (by omega), fm_si hj (by omega), fm_bs, fm_bs, hx, hm]
      have F : fm_F [8] μx (fw_wr μx 8 j (nI v)) := fm_F.rf.wr
      have G : fm_F [4] μm (fw_wr μm 4 j (nI v)) := fm_F.rf.wr
      refine ⟨_, _, _, rfl, rfl, ?_⟩
      refine fm_mk (C := (C.1, C.2.1, (fun i => if i = j then v else C.2.2.1 i), C.2.2.2)) ⟨wc.1, wc.2.1, ?_, wc.2.2.2⟩ ⟨cT xs.1 F, cL xs.2.1 F, ?_, cR xs.2.2.2.1 F, cX xs.2.2.2.2.1 F wc.2.2.2.2.1.1 F.c1, cJ xs.2.2.2.2.2 F⟩ ⟨dT ms.1 G (G.z 0), dL ms.2.1 G (G.z 6) (G.z 8), ?_, dR ms.2.2.2.1 G, dX ms.2.2.2.2.1 G (G.z 9), dJ ms.2.2.2.2.2 G (G.z 11)⟩ (kp.cong (F.at 81) (F.at 82)) im tp sh (rk.st G (G.z 21)) F G (G.z 15) (G.z 32)
      · intro i hi
        by_cases e : i = j
        · simp only [e, if_true]; exact ⟨hv1, hv2⟩
        · simp only [e, if_false]; exact wc.2.2.1 i hi
      · intro i hi
        by_cases e : i = j
        · simp only [fm_wr, e, and_self, if_true]
        · simp only [fm_wr, e, and_false, if_false]; exact xs.2.2.1 i hi
      · intro i hi
        by_cases e : i = j
        · simp only [fm_wr, e, and_self, if_true]
        · simp only [fm_wr, e, and_false, if_false]; exact ms.2.2.1 i hi
    · rw [fh_r0 h2, if_neg h2, fm_bs, if_pos rfl]
      exact ⟨_, _, _, rfl, rfl, hI2⟩
  · rw [if_neg h, fm_bs, fm_bs, if_pos rfl, if_pos rfl]
    exact ⟨_, _, _, rfl, rfl, hI2⟩
def fh_lo (j : Nat) : Nat := if j = 2 then 1 else 0
def fh_hi (j : Nat) : Nat := if j = 0 then 1 else if j = 1 then 3 else 9
theorem fh_s0v : ∀ j, j < 3 → fw_rd 3 fw_s0 (nI j) = some (nI (fh_lo j)) := by decide +kernel
theorem fh_s1v : ∀ j, j < 3 → fw_rd 3 fw_s1 (nI j) = some (nI (fh_hi j)) := by decide +kernel
theorem fh_lov : ∀ j, j < 3 → (if nI j = 2 then (1 : Int64) else 0) = (nI (fh_lo j)).toInt64 := by decide +kernel
theorem fh_hiv : ∀ j, j < 3 → (if nI j = 0 then (1 : Int64) else if nI j = 1 then 3 else 9) = (nI (fh_hi j)).toInt64 := by decide +kernel
theorem fh_lohi : ∀ j, j < 3 → fh_lo j ≤ fh_hi j ∧ fh_hi j < 10 := by decide +kernel
theorem fo_rule : fw_O_rule fm_I := by
  intro n μx μm hn hI a1 a2
  have hI2 := hI.up
  obtain ⟨⟨C, wc, xs, ms, kp⟩, im, tp, sh, rk⟩ := hI
  unfold f_X_rule f_M_rule
  rw [fh_inN (a := a1) (c := 2) 3 rfl (by omega)]
  by_cases h : 0 ≤ a1 ∧ a1 < 3
  · rw [fh_t1 h, if_pos (show 0 ≤ a1 ∧ a1 < nI 3 from h), fm_bs, if_neg fm_n10]
    obtain ⟨j, hj, rfl⟩ := fh_cs (n := 3) (by omega) h
    rw [fh_s0v j hj, fm_bs, fh_s1v j hj]
    simp only [fm_nmE, fm_bs]
    rw [fh_in (a := a2) (fh_lov j hj) (fh_hiv j hj)]
    have hlh := fh_lohi j hj
    by_cases h2 : nI (fh_lo j) ≤ a2 ∧ a2 ≤ nI (fh_hi j)
    · rw [fh_r1 h2, if_pos h2, fm_bs, if_neg fm_n10]
      obtain ⟨v, hv1, hv2, rfl⟩ := fh_cl (l := fh_lo j) (n := fh_hi j) rfl rfl (by omega) (by omega) h2
      have hx : μx.1 9 j = nI (C.2.2.2.1 j) := xs.2.2.2.1 j hj
      have hm : μm.1 5 j = nI (C.2.2.2.1 j) := ms.2.2.2.1 j hj
      rw [fm_rd hj (by omega), fm_rd hj (by omega), fm_bs, fm_bs, fm_si hj (by omega), fm_si hj (by omega), fm_bs, fm_bs, hx, hm]
      obtain ⟨ν, e, F0, z⟩ := fh_forget (μ := fw_wr μx 9 j (nI v))
      rw [e, fm_bs]
      have F : fm_F [9, 81] μx ν := (fm_F.rf.wr : fm_F [9, 81] μx (fw_wr μx 9 j (nI v))).tr F0.up
      have G : fm_F [5] μm (fw_wr μm 5 j (nI v)) := fm_F.rf.wr
      refine ⟨_, _, _, rfl, rfl, ?_⟩
      refine fm_mk (C := (C.1, C.2.1, C.2.2.1, (fun i => if i = j then v else C.2.2.2.1 i), C.2.2.2.2)) ⟨wc.1, wc.2.1, wc.2.2.1, ?_, wc.2.2.2.2⟩ ⟨cT xs.1 F, cL xs.2.1 F, cW xs.2.2.1 F, ?_, cX xs.2.2.2.2.1 F wc.2.2.2.2.1.1 F.c1, cJ xs.2.2.2.2.2 F⟩ ⟨dT ms.1 G (G.z 0), dL ms.2.1 G (G.z 6) (G.z 8), dW ms.2.2.1 G, ?_, dX ms.2.2.2.2.1 G (G.z 9), dJ ms.2.2.2.2.2 G (G.z 11)⟩ (fm_kept.none z wc.2.2.2.2.1.1) im tp sh (rk.st G (G.z 21)) F G (G.z 15) (G.z 32)
      · obtain ⟨r0, r1, r2, r3⟩ := wc.2.2.2.1
        match j, hj, hv1, hv2 with
        | 0, _, hv1, hv2 => exact ⟨hv2, r1, r2, r3⟩
        | 1, _, hv1, hv2 => exact ⟨r0, hv2, r2, r3⟩
        | 2, _, hv1, hv2 => exact ⟨r0, r1, hv1, hv2⟩
      · rw [F0.at 9]
        intro i hi
        by_cases e : i = j
        · simp only [fm_wr, e, and_self, if_true]
        · simp only [fm_wr, e, and_false, if_false]; exact xs.2.2.2.1 i hi
      · intro i hi
        by_cases e : i = j
        · simp only [fm_wr, e, and_self, if_true]
        · simp only [fm_wr, e, and_false, if_false]; exact ms.2.2.2.1 i hi
    · rw [fh_r0 h2, if_neg h2, fm_bs, if_pos rfl]
      exact ⟨_, _, _, rfl, rfl, hI2⟩
  · rw [fh_t0 h, if_neg (show ¬ (0 ≤ a1 ∧ a1 < nI 3) from h), fm_bs, if_pos rfl]
    exact ⟨_, _, _, rfl, rfl, hI2⟩
/-! job, clear -/
theorem rJ.add {sz : Int32} {h d h2 d2 : Nat → Int32} {J : List (Nat × Nat)} {j : Nat × Nat} (hJ : rJ sz h d J) (eh : ∀ i, i < J.length → h2 i = h i) (ed : ∀ i, i < J.length → d2 i = d i) (e1 : h2 J.length = nI j.1) (e2 : d2 J.length = nI j.2) : rJ (nI (J.length + 1)) h2 d2 (J ++ [j]) := by
  refine ⟨by simp, fun i hi => ?_⟩
  rw [List.length_append, List.length_singleton] at hi
  by_cases e : i < J.length
  · rw [show fm_jj (J ++ [j]) i = fm_jj J i from fm_gDa e, eh i e, ed i e]
    exact hJ.2 i e
  · have e3 : i = J.length := by omega
    subst e3
    rw [show fm_jj (J ++ [j]) J.length = j from fm_gDl]
    exact ⟨e1, e2⟩
theorem wJ.add {J : List (Nat × Nat)} {j : Nat × Nat} (h : wJ J) (hl : J.length < 8) (hj : (1 ≤ j.1 ∧ j.1 ≤ 24) ∧ 1 ≤ j.2 ∧ j.2 ≤ 200) : wJ (J ++ [j]) := by
  refine ⟨by rw [List.length_append, List.length_singleton]; omega, fun i hi => ?_⟩
  rw [List.length_append, List.length_singleton] at hi
  by_cases e : i < J.length
  · rw [show fm_jj (J ++ [j]) i = fm_jj J i from fm_gDa e]; exact h.2 i e
  · have e2 : i = J.length := by omega
    subst e2
    rw [show fm_jj (J ++ [j]) J.length = j from fm_gDl]; exact hj
theorem rJ_w {μ : fw_M} {a b c f p q : Nat} {J : List (Nat × Nat)} (ab : a ≠ b) (ac : a ≠ c) (bc : b ≠ c) (h : rJ (μ.1 a f) (μ.1 b) (μ.1 c) J) : rJ ((fw_wr (fw_wr (fw_wr μ b J.length (nI p)) c J.length (nI q)) a f (nI J.length + 1)).1 a f) ((fw_wr (fw_wr (fw_wr μ b J.length (nI p)) c J.length (nI q)) a f (nI J.length + 1)).1 b) ((fw_wr (fw_wr (fw_wr μ b J.length (nI p)) c J.length (nI q)) a f (nI J.length + 1)).1 c) (J ++ [(p, q)]) := by
  rw [show (fw_wr (fw_wr (fw_wr μ b J.length (nI p)) c J.length (nI q)) a f (nI J.length + 1)).1 a f = nI (J.length + 1) by rw [fm_wr, if_pos ⟨rfl, rfl⟩, nI_1]]
  refine rJ.add h ?_ ?_ ?_ ?_
  · intro i hi; simp only [fm_wr, ab.symm, bc, false_and, if_false, show ¬ i = J.length by omega, and_false]
  · intro i hi; simp only [fm_wr, ac.symm, bc.symm, false_and, if_false, show ¬ i = J.length by omega, and_false]
  · simp only [fm_wr, ab.symm, bc, false_and, if_false, and_self, if_true]
  · simp only [fm_wr, ac.symm, bc.symm, false_and, if_false, and_self, if_true]
theorem fo_job : fw_O_job fm_I := by
  intro n μx μm hn hI a1 a2
  have hI2 := hI.up
  obtain ⟨⟨C, wc, xs, ms, kp⟩, im, tp, sh, rk⟩ := hI
  unfold f_X_job f_M_job
  rw [fh_in (a := a1) (b := 1) (c := 24) (lo := 1) (hi := 24) rfl rfl]
  by_cases h1 : 1 ≤ a1 ∧ a1 ≤ 24
  · rw [fh_s1 h1, if_pos h1, fm_bs, if_neg fm_n10, fh_in (a := a2) (b := 1) (c := 200) (lo := 1) (hi := 200) rfl rfl]
    by_cases h2 : 1 ≤ a2 ∧ a2 ≤ 200
    · rw [fh_r1 h2, if_pos h2, fm_bs, if_neg fm_n10]
      obtain ⟨p, hp1, hp2, rfl⟩ := fh_cl (l := 1) (n := 24) rfl rfl (by omega) (by omega) h1
      obtain ⟨q, hq1, hq2, rfl⟩ := fh_cl (l := 1) (n := 200) rfl rfl (by omega) (by omega) h2
      have hl := wc.2.2.2.2.2.1
      have hJx : rJ (μx.1 28 3) (μx.1 29) (μx.1 30) C.2.2.2.2.2 := xs.2.2.2.2.2
      have hJm := ms.2.2.2.2.2
      generalize hJe : C.2.2.2.2.2 = J at hl hJx hJm
      have hsx : μx.1 28 3 = nI J.length := hJx.1
      have hsm : μm.1 0 11 = nI J.length := hJm.1
      by_cases hf : J.length < 8
      · have c1 : nI J.length < 8 := nI_lt (b := 8) hf (by omega)
        have c2 : ¬ 8 ≤ nI J.length := nI_ge (b := 8) hf (by omega)
        have c3 : ¬ nI J.length = 8 := fun e => by have := (nI_eq (a := J.length) (b := 8) (by omega) (by omega)).mp e; omega
        have s : ∀ (ν : fw_M) (k : Nat) (v : Int32), fw_si 8 ν k (nI J.length) v = some (fw_wr ν k J.length v) := fun ν k v => fm_si hf (by omega)
        simp only [f_Jobs_add_28, hsx, hsm, c1, c2, c3, s, fm_bs, fm_nmE, fm_n10, if_true, if_false, fm_wr, Nat.reduceEqDiff, false_and, and_false, true_and, and_true, and_self, reduceIte]
        have F : fm_F [28, 29, 30] μx (fw_wr (fw_wr (fw_wr μx 29 J.length (nI p)) 30 J.length (nI q)) 28 3 (nI J.length + 1)) := ((fm_F.rf.wr).wr).wr
        have G : fm_F [0, 8, 9] μm (fw_wr (fw_wr (fw_wr μm 8 J.length (nI p)) 9 J.length (nI q)) 0 11 (nI J.length + 1)) := ((fm_F.rf.wr).wr).wr
        have Z : ∀ j, j ≠ 11 → (fw_wr (fw_wr (fw_wr μm 8 J.length (nI p)) 9 J.length (nI q)) 0 11 (nI J.length + 1)).1 0 j = μm.1 0 j := fun j hj => by simp only [fm_bs, fm_nmE, fm_n10, if_true, if_false, fm_wr, Nat.reduceEqDiff, false_and, and_false, true_and, and_true, and_self, reduceIte, hj]
        refine ⟨_, _, _, rfl, rfl, ?_⟩
        exact fm_mk (C := (C.1, C.2.1, C.2.2.1, C.2.2.2.1, C.2.2.2.2.1, J ++ [(p, q)])) ⟨wc.1, wc.2.1, wc.2.2.1, wc.2.2.2.1, wc.2.2.2.2.1, wJ.add (hJe ▸ wc.2.2.2.2.2) hf ⟨⟨hp1, hp2⟩, hq1, hq2⟩⟩ ⟨cT xs.1 F, cL xs.2.1 F, cW xs.2.2.1 F, cR xs.2.2.2.1 F, cX xs.2.2.2.2.1 F wc.2.2.2.2.1.1 F.c1, rJ_w (by decide) (by decide) (by decide) hJx⟩ ⟨dT ms.1 G (Z 0 (by decide)), dL ms.2.1 G (Z 6 (by decide)) (Z 8 (by decide)), dW ms.2.2.1 G, dR ms.2.2.2.1 G, dX ms.2.2.2.2.1 G (Z 9 (by decide)), rJ_w (by decide) (by decide) (by decide) hJm⟩ (kp.cong (F.at 81) (F.at 82)) im tp sh (rk.st G (Z 21 (by decide))) F G (Z 15 (by decide)) (Z 32 (by decide))
      · have e : J.length = 8 := by omega
        rw [e] at hsx hsm
        rw [hsx, hsm, if_neg (show ¬ nI 8 < 8 by decide), if_pos (show nI 8 = 8 by decide)]
        exact ⟨_, _, _, rfl, rfl, hI2⟩
    · rw [fh_r0 h2, if_neg h2, fm_bs, if_pos rfl]
      exact ⟨_, _, _, rfl, rfl, hI2⟩
  · rw [fh_s0 h1, if_neg h1, fm_bs, if_pos rfl]
    exact ⟨_, _, _, rfl, rfl, hI2⟩
theorem fo_clear : fw_O_clear fm_I := by
  intro n μx μm hn hI
  obtain ⟨⟨C, wc, xs, ms, kp⟩, im, tp, sh, rk⟩ := hI
  have e1 : μx.1 1 6 = nI C.2.2.2.2.1.length := xs.2.2.2.2.1.1
  have e2 : μx.1 28 3 = nI C.2.2.2.2.2.length := xs.2.2.2.2.2.1
  have e3 : μm.1 0 9 = nI C.2.2.2.2.1.length := ms.2.2.2.2.1.1
  have e4 : μm.1 0 11 = nI C.2.2.2.2.2.length := ms.2.2.2.2.2.1
  unfold f_X_clear f_M_clear
  simp only [fm_nmE, e1, e2, e3, e4]
  obtain ⟨ν, e, F0, z⟩ := fh_forget (μ := fw_wr (fw_wr μx 1 6 0) 28 3 0)
  rw [e, fm_bs]
  have F : fm_F [1, 28, 81] μx ν := (((fm_F.rf).wr).wr : fm_F [1, 28, 81] μx (fw_wr (fw_wr μx 1 6 0) 28 3 0)).tr F0.up
  have G : fm_F [0] μm (fw_wr (fw_wr μm 0 9 0) 0 11 0) := ((fm_F.rf).wr).wr
  have Z : ∀ j, j ≠ 9 → j ≠ 11 → (fw_wr (fw_wr μm 0 9 0) 0 11 0).1 0 j = μm.1 0 j := fun j hj hj2 => by simp only [fm_bs, fm_nmE, fm_n10, if_true, if_false, fm_wr, Nat.reduceEqDiff, false_and, and_false, true_and, and_true, and_self, reduceIte, hj, hj2]
  refine ⟨_, _, _, rfl, rfl, ?_⟩
  have nil : ∀ {p : Nat → Prop} (i : Nat), i < 0 → p i := fun i hi => absurd hi (Nat.not_lt_zero _)
  refine fm_mk (C := (C.1, C.2.1, C.2.2.1, C.2.2.2.1, [], [])) ⟨wc.1, wc.2.1, wc.2.2.1, wc.2.2.2.1, ⟨Nat.zero_le _, nil⟩, ⟨Nat.zero_le _, nil⟩⟩ ⟨cT xs.1 F, cL xs.2.1 F, cW xs.2.2.1 F, cR xs.2.2.2.1 F, ⟨?_, nil⟩, ⟨?_, nil⟩⟩ ⟨dT ms.1 G (Z 0 (by decide) (by decide)), dL ms.2.1 G (Z 6 (by decide) (by decide)) (Z 8 (by decide) (by decide)), dW ms.2.2.1 G, dR ms.2.2.2.1 G, ⟨?_, nil⟩, ⟨?_, nil⟩⟩ (fm_kept.none z (Nat.zero_le _)) im tp sh (rk.st G (Z 21 (by decide) (by decide))) F G (Z 15 (by decide) (by decide)) (Z 32 (by decide) (by decide))
  · rw [F0.at 1]; simp only [fm_bs, fm_nmE, fm_n10, if_true, if_false, fm_wr, Nat.reduceEqDiff, false_and, and_false, true_and, and_true, and_self, reduceIte]; rfl
  · rw [F0.at 28]; simp only [fm_bs, fm_nmE, fm_n10, if_true, if_false, fm_wr, Nat.reduceEqDiff, false_and, and_false, true_and, and_true, and_self, reduceIte]; rfl
  · simp only [fm_bs, fm_nmE, fm_n10, if_true, if_false, fm_wr, Nat.reduceEqDiff, false_and, and_false, true_and, and_true, and_self, reduceIte]; rfl
  · simp only [fm_bs, fm_nmE, fm_n10, if_true, if_false, fm_wr, Nat.reduceEqDiff, false_and, and_false, true_and, and_true, and_self, reduceIte]; rfl
/-! LEFT -/
def fm_lf (L : fm_Li) (wd : Nat → Nat) : Nat → Nat
  | 0 => 0
  | i + 1 => fm_lf L wd i + (wd (fm_ll L i) + if L.2.testBit i then 2 else 0)
theorem fm_lf_le {L : fm_Li} {wd : Nat → Nat} (wl : wL L) (hw : wW wd) : ∀ i, i ≤ L.1.length → fm_lf L wd i ≤ 6 * i := by
  intro i
  induction i with
  | zero => intro _; exact Nat.le_refl _
  | succ i ih =>
    intro h
    have h1 := ih (by omega)
    have h2 := (hw _ (wl.2.1 i (by omega))).2
    show fm_lf L wd i + (wd (fm_ll L i) + if L.2.testBit i then 2 else 0) ≤ 6 * (i + 1)
    split <;> omega
theorem fx_beside {t p : Nat} {μ : fw_M} {L : fm_Li} (hok : fw_okL t) (hb : μ.1 t 2 = nI (fm_be L)) (wl : wL L) (hp : p < 32) : f_Line_besideNext t (nI p) μ = some (if (fm_be L).testBit p then 1 else 0) := by
  unfold f_Line_besideNext
  rw [if_pos hok, hb, fm_inSet hp (by have := fm_be_lt wl; omega), fm_bs, fh_bz, fm_bs]
theorem fm_gap_top {L : fm_Li} (wl : wL L) {p : Nat} (hp : L.1.length ≤ p + 1) : L.2.testBit p = false := Nat.testBit_lt_two_pow (Nat.lt_of_lt_of_le wl.2.2 (Nat.pow_le_pow_right (by omega) (by omega)))
theorem fx_left {p : Nat} {μ : fw_M} {L : fm_Li} {wd : Nat → Nat} (hL : xL 6 μ L) (wl : wL L) (hW : ∀ i, i < 12 → μ.1 8 i = nI (wd i)) (hp : p < L.1.length) : f_Line_left 6 (nI p) μ = some (nI (fm_lf L wd p)) := by
  have h10 := wl.1
  unfold f_Line_left
  rw [if_pos fh_ok6]
  apply fm_eq
  rw [fm_bind]
  refine fm_up (P := fun i s => s = (nI (fm_lf L wd i), nI i)) p ?_ ?_ 0 (Nat.zero_le _) rfl (by omega)
  · rintro i _ hi rfl
    have a1 : μ.1 6 1 = nI L.1.length := hL.1.1
    have a2 : μ.1 7 i = nI (fm_ll L i) := hL.1.2 i (by omega)
    have a3 := wl.2.1 i (by omega)
    have a4 := fm_be_bit wl i
    unfold f_Line_left_L5
    try dsimp only
    simp only [nI_ge hi (by omega), a1, nI_ge (show i < L.1.length by omega) (by omega), if_false]
    rw [fm_rd (by omega) (by omega), fm_bs, a2, fm_rd a3 (by omega), fm_bs, hW _ a3, fx_beside fh_ok6 hL.2 wl (by omega), fm_bs, a4]
    simp only [fm_nmE]
    rw [fm_some, fm_Kl]
    have hd : decide (i + 1 < L.1.length) = true := decide_eq_true (by omega)
    rw [hd]
    show _ = (nI (fm_lf L wd i + (wd (fm_ll L i) + if L.2.testBit i then 2 else 0)), nI (i + 1))
    cases hb : L.2.testBit i
    · simp only [Bool.true_and, Bool.not_false, if_true, if_false, fm_n10, nI_1, Bool.false_eq_true]
      rw [show (0 : Int32) = nI 0 from rfl, nI_add, nI_add]
    · simp only [Bool.true_and, Bool.not_true, if_true, if_false, fm_l2, nI_add, nI_1, Bool.false_eq_true]
  · rintro _ rfl
    unfold f_Line_left_L5
    try dsimp only
    rw [if_pos (nI_le (Nat.le_refl _) (by omega)), fm_some, fm_Kr, fm_some]
theorem fy_left {p : Nat} {μ : fw_M} {L : fm_Li} {wd : Nat → Nat} (hL : rL (μ.1 0 6) (μ.1 6) L ∧ μ.1 0 8 = nI L.2) (wl : wL L) (hW : ∀ i, i < 12 → μ.1 4 i = nI (wd i)) (hp : p ≤ L.1.length) : f_M_leftOf (nI p) μ = some (nI (fm_lf L wd p)) := by
  have h10 := wl.1
  unfold f_M_leftOf
  apply fm_eq
  rw [fm_bind]
  refine fm_up (P := fun i s => s = (nI (fm_lf L wd i), nI i)) p ?_ ?_ 0 (Nat.zero_le _) rfl (by omega)
  · rintro i _ hi rfl
    have a2 : μ.1 6 i = nI (fm_ll L i) := hL.1.2 i (by omega)
    have a3 := wl.2.1 i (by omega)
    have a5 := fm_ga_lt wl
    unfold f_M_leftOf_L4
    try dsimp only
    rw [if_neg (nI_ge hi (by omega)), fm_rd (by omega) (by omega), fm_bs, a2, fm_rd a3 (by omega), fm_bs, hW _ a3, hL.2, fm_bit (by omega) (by omega)]
    simp only [fm_nmE]
    rw [fm_some, fm_Kl]
    show _ = (nI (fm_lf L wd i + (wd (fm_ll L i) + if L.2.testBit i then 2 else 0)), nI (i + 1))
    cases hb : L.2.testBit i
    · simp only [if_false, Bool.false_eq_true, fm_l0, fm_l2, nI_add, nI_1, pk_mul]
    · simp only [if_true, fm_l1, fm_l2, nI_add, pk_mul]
  · rintro _ rfl
    unfold f_M_leftOf_L4
    try dsimp only
    rw [if_pos (nI_le (Nat.le_refl _) (by omega)), fm_some, fm_Kr, fm_some]
theorem fx_hairs {μ : fw_M} {L : fm_Li} {wd : Nat → Nat} (hL : xL 6 μ L) (wl : wL L) (hW : ∀ i, i < 12 → μ.1 8 i = nI (wd i)) : f_Line_hairs 6 μ = some (nI (fm_lf L wd L.1.length)) := by
  have h10 := wl.1
  unfold f_Line_hairs
  rw [if_pos fh_ok6, show μ.1 6 1 = nI L.1.length from hL.1.1]
  by_cases h : L.1.length = 0
  · rw [h]; rfl
  · obtain ⟨k, hk⟩ : ∃ k, L.1.length = k + 1 := ⟨L.1.length - 1, by omega⟩
    have hne : ¬ nI L.1.length = 0 := nI_ne0 (by omega) (by omega)
    rw [if_neg hne, hk, nI_pred, fx_left hL wl hW (by omega), fm_bs, fm_rd (by omega) (by omega), fm_bs, show μ.1 (6 + 1) k = nI (fm_ll L k) from hL.1.2 k (by omega), fm_rd (wl.2.1 k (by omega)) (by omega), fm_bs, hW _ (wl.2.1 k (by omega)), fm_bs]
    show some (nI (fm_lf L wd k) + nI (wd (fm_ll L k))) = some (nI (fm_lf L wd k + (wd (fm_ll L k) + if L.2.testBit k then 2 else 0)))
    rw [fm_gap_top wl (p := k) (by omega), nI_add]
    rfl
theorem fo_count : fw_O_count fm_I := by
  intro n μx μm hn hI a1
  have hI2 := hI.up
  obtain ⟨⟨C, wc, xs, ms, kp⟩, -⟩ := hI
  have t1 : μx.1 2 3 = nI C.1.length := xs.1.1
  have t2 : μm.1 0 0 = nI C.1.length := ms.1.1
  have l1 : μx.1 6 1 = nI C.2.1.1.length := xs.2.1.1.1
  have l2 : μm.1 0 6 = nI C.2.1.1.length := ms.2.1.1.1
  have e1 : μx.1 1 6 = nI C.2.2.2.2.1.length := xs.2.2.2.2.1.1
  have e2 : μx.1 28 3 = nI C.2.2.2.2.2.length := xs.2.2.2.2.2.1
  have e3 : μm.1 0 9 = nI C.2.2.2.2.1.length := ms.2.2.2.2.1.1
  have e4 : μm.1 0 11 = nI C.2.2.2.2.2.length := ms.2.2.2.2.2.1
  unfold f_X_count f_M_count
  rw [fx_hairs xs.2.1 wc.2.1 xs.2.2.1, fm_bs, t1, t2, l1, l2, e1, e2, e3, e4, fy_left ms.2.1 wc.2.1 ms.2.2.1 (Nat.le_refl _), fm_bs]
  by_cases q0 : a1 = 0
  · rw [if_pos q0]; exact ⟨_, rfl, rfl, hI2⟩
  rw [if_neg q0]
  by_cases q1 : a1 = 1
  · rw [if_pos q1]; exact ⟨_, rfl, rfl, hI2⟩
  rw [if_neg q1]
  by_cases q2 : a1 = 2
  · rw [if_pos q2]; exact ⟨_, rfl, rfl, hI2⟩
  rw [if_neg q2]
  by_cases q3 : a1 = 3
  · rw [if_pos q3]; exact ⟨_, rfl, rfl, hI2⟩
  rw [if_neg q3]
  by_cases q4 : a1 = 4
  · rw [if_pos q4]; exact ⟨_, rfl, rfl, hI2⟩
  rw [if_neg q4]
  exact ⟨_, rfl, rfl, hI2⟩
theorem fy_beside {p : Nat} {μ : fw_M} {L : fm_Li} (hL : rL (μ.1 0 6) (μ.1 6) L ∧ μ.1 0 8 = nI L.2) (wl : wL L) (hp : p < 32) : f_M_isBeside (nI p) μ = some (if p + 1 < L.1.length ∧ L.2.testBit p = false then 1 else 0) := by
  have h10 := wl.1
  unfold f_M_isBeside
  rw [if_neg (nI_pos (by omega)), hL.1.1, hL.2, nI_1]
  by_cases h : p + 1 < L.1.length
  · rw [if_neg (nI_ge h (by omega))]
    by_cases b : L.2.testBit p = false
    · rw [if_pos ((fm_bit0 hp (by have := fm_ga_lt wl; omega)).mpr b), if_pos ⟨h, b⟩]; rfl
    · rw [if_neg (fun e => b ((fm_bit0 hp (by have := fm_ga_lt wl; omega)).mp e)), if_neg (fun e => b e.2)]; rfl
  · rw [if_pos (nI_le (by omega) (by omega)), if_neg (fun e => h e.1)]; rfl
theorem fx_beside2 {t p : Nat} {μ : fw_M} {L : fm_Li} (hok : fw_okL t) (hb : μ.1 t 2 = nI (fm_be L)) (wl : wL L) (hp : p < 32) : f_Line_besideNext t (nI p) μ = some (if p + 1 < L.1.length ∧ L.2.testBit p = false then 1 else 0) := by
  rw [fx_beside hok hb wl hp, fm_be_bit wl]
  by_cases h : p + 1 < L.1.length
  · cases b : L.2.testBit p <;> simp [h]
  · simp [h]
theorem fo_place : fw_O_place fm_I := by
  intro n μx μm hn hI a1 a2
  have hI2 := hI.up
  obtain ⟨⟨C, wc, xs, ms, kp⟩, -⟩ := hI
  have h10 := wc.2.1.1
  have l1 : μx.1 6 1 = nI C.2.1.1.length := xs.2.1.1.1
  have l2 : μm.1 0 6 = nI C.2.1.1.length := ms.2.1.1.1
  unfold f_X_place f_M_place
  rw [fh_lhas, l1, l2, show nI C.2.1.1.length - 1 = nD C.2.1.1.length from rfl, fh_inN C.2.1.1.length rfl (by omega)]
  by_cases h : 0 ≤ a1 ∧ a1 < nI C.2.1.1.length
  · obtain ⟨j, hj, rfl⟩ := fh_cs (by omega) h
    have q1 : μx.1 7 j = nI (fm_ll C.2.1 j) := xs.2.1.1.2 j hj
    have q2 : μm.1 6 j = nI (fm_ll C.2.1 j) := ms.2.1.1.2 j hj
    rw [if_pos h, fm_bs, fm_bs, if_neg fm_n10, if_neg fm_n10, fh_inN (a := a2) (c := 2) 3 rfl (by omega)]
    have r : ∀ f : Nat → Int32, fw_rd 10 f (nI j) = some (f j) := fun f => fm_rd (by omega) (by omega)
    simp only [r, q1, q2, fm_bs, fx_left xs.2.1 wc.2.1 xs.2.2.1 hj, fy_left ms.2.1 wc.2.1 ms.2.2.1 (Nat.le_of_lt hj), fx_beside2 fh_ok6 xs.2.1.2 wc.2.1 (show j < 32 by omega), fy_beside ms.2.1 wc.2.1 (show j < 32 by omega), fm_nmE]
    by_cases e0 : a2 = 0
    · subst e0
      exact ⟨_, rfl, rfl, hI2⟩
    by_cases e1 : a2 = 1
    · subst e1
      exact ⟨_, rfl, rfl, hI2⟩
    by_cases e2 : a2 = 2
    · subst e2
      by_cases b : j + 1 < C.2.1.1.length ∧ C.2.1.2.testBit j = false
      · rw [if_pos b]
        exact ⟨_, rfl, rfl, hI2⟩
      · rw [if_neg b]
        exact ⟨_, rfl, rfl, hI2⟩
    have : ¬ (0 ≤ a2 ∧ a2 < nI 3) := by
      intro q
      obtain ⟨k, hk, rfl⟩ := fh_cs (n := 3) (by omega) q
      match k, hk with
      | 0, _ => exact e0 rfl
      | 1, _ => exact e1 rfl
      | 2, _ => exact e2 rfl
    rw [if_neg e0, if_neg e1, if_neg e2, if_neg this]
    exact ⟨_, rfl, rfl, hI2⟩
  · rw [if_neg h]
    exact ⟨_, rfl, rfl, hI2⟩
