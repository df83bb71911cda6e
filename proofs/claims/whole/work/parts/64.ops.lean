/-! the start, and the plain calls -/
theorem fo_init : fm_I 0 fw_x0 fw_y0 := by
  have i12 : ∀ i, i < 12 → fw_x0.1 8 i = nI 2 := fun i hi => by
    show fw_w2 i = nI 2
    unfold fw_w2
    rw [if_pos hi]
    rfl
  have j12 : ∀ i, i < 12 → fw_y0.1 4 i = nI 2 := by
    have : ∀ i : Fin 12, fw_y0.1 4 i = nI 2 := by decide +kernel
    exact fun i hi => this ⟨i, hi⟩
  have i3 : ∀ i, i < 3 → fw_x0.1 9 i = nI (if i = 2 then 4 else 0) := by
    have : ∀ i : Fin 3, fw_x0.1 9 i = nI (if i.val = 2 then 4 else 0) := by decide +kernel
    exact fun i hi => this ⟨i, hi⟩
  have j3 : ∀ i, i < 3 → fw_y0.1 5 i = nI (if i = 2 then 4 else 0) := by
    have : ∀ i : Fin 3, fw_y0.1 5 i = nI (if i.val = 2 then 4 else 0) := by decide +kernel
    exact fun i hi => this ⟨i, hi⟩
  have nil : ∀ {p : Nat → Prop} (i : Nat), i < 0 → p i := fun i hi => absurd hi (Nat.not_lt_zero _)
  refine ⟨⟨([], ([], 0), fun _ => 2, fun i => if i = 2 then 4 else 0, [], []), ?_, ?_, ?_, ?_⟩, Or.inl ⟨rfl, rfl⟩, ⟨[], ⟨by decide, nil⟩, ⟨rfl, nil⟩, ⟨rfl, nil⟩⟩, ?_, ⟨0, by omega, rfl, fun i _ => ⟨0, Nat.le_refl _, rfl⟩⟩⟩
  · exact ⟨⟨by decide, nil⟩, ⟨by decide, nil, by decide⟩, fun i _ => ⟨by show 1 ≤ 2; omega, by show 2 ≤ 4; omega⟩, ⟨by decide, by decide, by decide, by decide⟩, ⟨by decide, nil⟩, ⟨by decide, nil⟩⟩
  · exact ⟨⟨rfl, nil⟩, ⟨⟨rfl, nil⟩, rfl⟩, i12, i3, ⟨rfl, nil⟩, ⟨rfl, nil⟩⟩
  · exact ⟨⟨rfl, nil⟩, ⟨⟨rfl, nil⟩, rfl⟩, j12, j3, ⟨rfl, nil⟩, ⟨rfl, nil⟩⟩
  · exact ⟨nil, Or.inl rfl⟩
  · intro s hs
    left
    have : ∀ s : Fin 4, fw_x0.1 (86 + 2 * s) 3 = 0 ∧ fw_y0.1 24 s = -1 := by decide +kernel
    exact this ⟨s, hs⟩
theorem xS.T {μ ν : fw_M} {C : fm_C} {T : List fm_Ty} (h : xS 1 μ C) (h1 : ν.1 1 = μ.1 1) (hF : ∀ k, 6 ≤ k → k ≤ 31 → ν.1 k = μ.1 k) (hT : rT (ν.1 2 3) (ν.1 3) (ν.1 4) (ν.1 5) T) (hX : C.2.2.2.2.1.length ≤ 8) : xS 1 ν (T, C.2) := by
  obtain ⟨a1, a2, a3, a4, a5, a6⟩ := h
  refine ⟨hT, a2.cong (hF _ (by omega) (by omega)) (hF _ (by omega) (by omega)), ?_, ?_, ⟨by rw [h1]; exact a5.1, fun t ht => ⟨(a5.2 t ht).1.cong (hF _ (by omega) (by have : t < C.2.2.2.2.1.length := ht; omega)) (hF _ (by omega) (by have : t < C.2.2.2.2.1.length := ht; omega)), ?_⟩⟩, ?_⟩
  · rw [hF 8 (by omega) (by omega)]; exact a3
  · rw [hF 9 (by omega) (by omega)]; exact a4
  · rw [hF 27 (by omega) (by omega)]; exact (a5.2 t ht).2
  · rw [hF 28 (by omega) (by omega), hF 29 (by omega) (by omega), hF 30 (by omega) (by omega)]; exact a6
theorem mS.T {g g2 : Nat → Nat → Int32} {C : fm_C} {T : List fm_Ty} (h : mS g C) (h6 : g2 0 6 = g 0 6) (h8 : g2 0 8 = g 0 8) (h9 : g2 0 9 = g 0 9) (h11 : g2 0 11 = g 0 11) (hk : ∀ k, 4 ≤ k → k ≤ 9 → g2 k = g k) (hT : rT (g2 0 0) (g2 1) (g2 2) (g2 3) T) : mS g2 (T, C.2) := by
  obtain ⟨a1, a2, a3, a4, a5, a6⟩ := h
  refine ⟨hT, ⟨?_, ?_⟩, ?_, ?_, a5.cong h9 (hk 7 (by omega) (by omega)), ?_⟩
  · rw [h6, hk 6 (by omega) (by omega)]; exact a2.1
  · rw [h8]; exact a2.2
  · rw [hk 4 (by omega) (by omega)]; exact a3
  · rw [hk 5 (by omega) (by omega)]; exact a4
  · rw [h11, hk 8 (by omega) (by omega), hk 9 (by omega) (by omega)]; exact a6
theorem fm_gDa {α : Type} {l : List α} {a d : α} {i : Nat} (h : i < l.length) : (l ++ [a]).getD i d = l.getD i d := by
  rw [List.getD_eq_getElem?_getD, List.getD_eq_getElem?_getD, List.getElem?_append_left h]
theorem fm_gDl {α : Type} {l : List α} {a d : α} : (l ++ [a]).getD l.length d = a := by
  rw [List.getD_eq_getElem?_getD, List.getElem?_append_right (Nat.le_refl _)]
  simp
theorem fm_tt_app {T : List fm_Ty} {t : fm_Ty} {i : Nat} (hi : i < T.length) : fm_tt (T ++ [t]) i = fm_tt T i := by
  exact fm_gDa hi
theorem fm_tt_last {T : List fm_Ty} {t : fm_Ty} : fm_tt (T ++ [t]) T.length = t := by
  exact fm_gDl
theorem rT.add {sz : Int32} {k l m k2 l2 m2 : Nat → Int32} {T : List fm_Ty} {t : fm_Ty} (h : rT sz k l m T) (hk : ∀ i, i < T.length → k2 i = k i) (hl : ∀ i, i < T.length → l2 i = l i) (hm : ∀ i, i < T.length → m2 i = m i) (ek : k2 T.length = nI t.1) (el : l2 T.length = nI t.2.1) (em : m2 T.length = nI t.2.2) : rT (nI (T.length + 1)) k2 l2 m2 (T ++ [t]) := by
  refine ⟨by simp, fun i hi => ?_⟩
  rw [List.length_append, List.length_singleton] at hi
  by_cases e : i < T.length
  · rw [fm_tt_app e, hk i e, hl i e, hm i e]
    exact h.2 i e
  · have e2 : i = T.length := by omega
    subst e2
    rw [fm_tt_last]
    exact ⟨ek, el, em⟩
theorem wT.add {T : List fm_Ty} {t : fm_Ty} (h : wT T) (hl : T.length < 10) (ht : fm_ok t) : wT (T ++ [t]) := by
  refine ⟨by rw [List.length_append, List.length_singleton]; omega, fun i hi => ?_⟩
  rw [List.length_append, List.length_singleton] at hi
  by_cases e : i < T.length
  · rw [fm_tt_app e]; exact h.2 i e
  · have e2 : i = T.length := by omega
    subst e2
    rw [fm_tt_last]; exact ht
theorem fm_n10 : ¬ (1 : Int32) = 0 := by decide
theorem fo_told : fw_O_told fm_I := by
  intro n μx μm hn hI a1 a2
  have hI2 := hI.up
  obtain ⟨⟨C, wc, xs, ms, kp⟩, -⟩ := hI
  have hsx : μx.1 2 3 = nI C.1.length := xs.1.1
  have hsm : μm.1 0 0 = nI C.1.length := ms.1.1
  have hl := wc.1.1
  unfold f_X_told f_M_told
  rw [fh_has, fh_isOne hsm (by omega), hsx]
  by_cases h : 0 ≤ a1 ∧ a1 < nI C.1.length
  · obtain ⟨j, hj, rfl⟩ := fh_cs (by omega) h
    have hx : μx.1 3 j = nI (fm_tt C.1 j).1 ∧ μx.1 4 j = nI (fm_tt C.1 j).2.1 ∧ μx.1 5 j = nI (fm_tt C.1 j).2.2 := xs.1.2 j hj
    have hm := ms.1.2 j hj
    have r : ∀ f : Nat → Int32, fw_rd 10 f (nI j) = some (f j) := fun f => fm_rd (by omega) (by omega)
    simp only [if_pos h, fm_bs, fh_in (a := a2) (b := 0) (c := 2) (lo := 0) (hi := 2) rfl rfl, r, hx, hm]
    by_cases e0 : a2 = 0
    · subst e0
      exact ⟨_, rfl, rfl, hI2⟩
    by_cases e1 : a2 = 1
    · subst e1
      exact ⟨_, rfl, rfl, hI2⟩
    by_cases e2 : a2 = 2
    · subst e2
      exact ⟨_, rfl, rfl, hI2⟩
    have : ¬ (0 ≤ a2 ∧ a2 ≤ 2) := by
      intro q
      obtain ⟨k, _, hk, rfl⟩ := fh_cl (l := 0) (n := 2) rfl rfl (by omega) (by omega) q
      match k, hk with
      | 0, _ => exact e0 rfl
      | 1, _ => exact e1 rfl
      | 2, _ => exact e2 rfl
    rw [if_neg e0, if_neg e1, if_neg e2, if_neg this]
    exact ⟨_, rfl, rfl, hI2⟩
  · rw [if_neg h]
    exact ⟨_, rfl, rfl, hI2⟩
