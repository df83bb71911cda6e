/-! bound -/
def fm_of (L : fm_Li) (l : Nat) : Nat → Nat
  | 0 => 0
  | i + 1 => fm_of L l i + if fm_ll L i = l then 1 else 0
def fm_pb (T : List fm_Ty) (l : Nat) : Nat → Nat
  | 0 => 0
  | i + 1 => fm_pb T l i + (if (fm_tt T i).2.1 = l then 1 else 0) + (if ((fm_tt T i).1 = 1 ∨ (fm_tt T i).1 = 2) ∧ (fm_tt T i).2.2 = l then 1 else 0)
def fm_own (o b : Nat) : Nat := if o = 0 then 0 else if b = 0 then 99 else (o + b - 1) / b
def fm_bd (T : List fm_Ty) (L : fm_Li) : Nat → Nat
  | 0 => 0
  | l + 1 => if fm_bd T L l < fm_own (fm_of L l L.1.length) (fm_pb T l T.length) then fm_own (fm_of L l L.1.length) (fm_pb T l T.length) else fm_bd T L l
theorem fm_of_le (L : fm_Li) (l : Nat) : ∀ i, fm_of L l i ≤ i := by
  intro i
  induction i with
  | zero => exact Nat.le_refl _
  | succ i ih =>
    show fm_of L l i + (if fm_ll L i = l then 1 else 0) ≤ i + 1
    split <;> omega
theorem fm_pb_le (T : List fm_Ty) (l : Nat) : ∀ i, fm_pb T l i ≤ 2 * i := by
  intro i
  induction i with
  | zero => exact Nat.le_refl _
  | succ i ih =>
    show fm_pb T l i + (if (fm_tt T i).2.1 = l then 1 else 0) + (if ((fm_tt T i).1 = 1 ∨ (fm_tt T i).1 = 2) ∧ (fm_tt T i).2.2 = l then 1 else 0) ≤ 2 * (i + 1)
    split <;> split <;> omega
theorem fm_pred {n : Nat} (h : 1 ≤ n) : nI n - 1 = nI (n - 1) := by
  obtain ⟨k, rfl⟩ : ∃ k, n = k + 1 := ⟨n - 1, by omega⟩
  rw [nI_pred]
  rfl
theorem fm_ok_lt {t : fm_Ty} (h : fm_ok t) : t.1 < 4 ∧ t.2.1 < 12 ∧ t.2.2 < 12 := by
  obtain ⟨h1, h2⟩ := h
  rcases h2 with ⟨a, b⟩ | ⟨a, b, _⟩ | ⟨a, b⟩ | ⟨a, b, c⟩ <;> refine ⟨by omega, h1, by omega⟩
theorem fx_often {l : Nat} {μ : fw_M} {L : fm_Li} (hL : xL 6 μ L) (wl : wL L) (hl : l < 12) : f_Line_howOften 6 (nI l) μ = some (nI (fm_of L l L.1.length)) := by
  have h10 := wl.1
  have hs : μ.1 6 1 = nI L.1.length := hL.1.1
  unfold f_Line_howOften
  rw [if_pos fh_ok6]
  apply fm_eq
  rw [fm_bind]
  refine fm_up (P := fun i s => s = (nI (fm_of L l i), nI i)) L.1.length ?_ ?_ 0 (Nat.zero_le _) rfl (by omega)
  · rintro i _ hi rfl
    have a2 : μ.1 (6 + 1) i = nI (fm_ll L i) := hL.1.2 i hi
    have a3 := wl.2.1 i hi
    unfold f_Line_howOften_L4
    try dsimp only
    rw [hs, if_neg (nI_ge hi (by omega)), fm_rd (by omega) (by omega), fm_bs, a2]
    show fm_T _ (fm_K (fun s1 => s1 = (nI (fm_of L l i + if fm_ll L i = l then 1 else 0), nI (i + 1))) _)
    by_cases e : fm_ll L i = l
    · rw [if_pos e, if_pos (by rw [e]), fm_nmE, fm_bs, fm_nm, fm_some, fm_Kl, nI_1, nI_1]
    · rw [if_neg e, if_neg (fun q => e ((nI_eq (by omega) (by omega)).mp q)), fm_bs, fm_nm, fm_some, fm_Kl, nI_1]
      rfl
  · rintro _ rfl
    unfold f_Line_howOften_L4
    try dsimp only
    rw [hs, if_pos (nI_le (Nat.le_refl _) (by omega)), fm_some, fm_Kr, fm_some]
theorem fx_printers {l : Nat} {μ : fw_M} {T : List fm_Ty} (hT : rT (μ.1 2 3) (μ.1 3) (μ.1 4) (μ.1 5) T) (wt : wT T) (hl : l < 12) : f_Case_printers_2 (nI l) μ = some (nI (fm_pb T l T.length)) := by
  have h10 := wt.1
  unfold f_Case_printers_2
  apply fm_eq
  rw [fm_bind]
  refine fm_up (P := fun i s => s = (nI (fm_pb T l i), nI i)) T.length ?_ ?_ 0 (Nat.zero_le _) rfl (by omega)
  · rintro i _ hi rfl
    obtain ⟨b1, b2, b3⟩ := hT.2 i hi
    obtain ⟨c1, c2, c3⟩ := fm_ok_lt (wt.2 i hi)
    have r : ∀ f : Nat → Int32, fw_rd 10 f (nI i) = some (f i) := fun f => fm_rd (by omega) (by omega)
    have k1 : nI (fm_tt T i).1 = 1 ↔ (fm_tt T i).1 = 1 := nI_eq (b := 1) (by omega) (by omega)
    have k2 : nI (fm_tt T i).1 = 2 ↔ (fm_tt T i).1 = 2 := nI_eq (b := 2) (by omega) (by omega)
    have k3 : nI (fm_tt T i).2.1 = nI l ↔ (fm_tt T i).2.1 = l := nI_eq (by omega) (by omega)
    have k4 : nI (fm_tt T i).2.2 = nI l ↔ (fm_tt T i).2.2 = l := nI_eq (by omega) (by omega)
    unfold f_Case_printers_2_L4
    try dsimp only
    rw [hT.1, if_neg (nI_ge hi (by omega))]
    show fm_T _ (fm_K (fun s1 => s1 = (nI (fm_pb T l i + (if (fm_tt T i).2.1 = l then 1 else 0) + (if ((fm_tt T i).1 = 1 ∨ (fm_tt T i).1 = 2) ∧ (fm_tt T i).2.2 = l then 1 else 0)), nI (i + 1))) _)
    simp only [r, fm_bs, b1, b2, b3, k1, k2, k3, k4, fm_nmE, nI_1]
    by_cases e1 : (fm_tt T i).2.1 = l <;> by_cases e2 : (fm_tt T i).1 = 1 <;> by_cases e3 : (fm_tt T i).1 = 2 <;> by_cases e4 : (fm_tt T i).2.2 = l <;> simp [e1, e2, e3, e4, fm_some, fm_Kl, fm_bs, nI_1]
  · rintro _ rfl
    unfold f_Case_printers_2_L4
    try dsimp only
    rw [hT.1, if_pos (nI_le (Nat.le_refl _) (by omega)), fm_some, fm_Kr, fm_some]
theorem fy_often {l : Nat} {μ : fw_M} {L : fm_Li} (hL : rL (μ.1 0 6) (μ.1 6) L) (wl : wL L) (hl : l < 12) : fw_wh (f_M_bound_L28 μ (nI l)) fw_N (0, 0) = some (nI (fm_of L l L.1.length)) := by
  have h10 := wl.1
  apply fm_eq
  refine fm_up (P := fun i s => s = (nI (fm_of L l i), nI i)) L.1.length ?_ ?_ 0 (Nat.zero_le _) rfl (by omega)
  · rintro i _ hi rfl
    have a2 : μ.1 6 i = nI (fm_ll L i) := hL.2 i hi
    have a3 := wl.2.1 i hi
    unfold f_M_bound_L28
    try dsimp only
    rw [hL.1, if_neg (nI_ge hi (by omega)), fm_rd (by omega) (by omega), fm_bs, a2]
    show fm_T _ (fm_K (fun s1 => s1 = (nI (fm_of L l i + if fm_ll L i = l then 1 else 0), nI (i + 1))) _)
    rw [fm_nm, fm_nm, fm_nm, fm_some, fm_Kl, nI_1]
    by_cases e : fm_ll L i = l
    · rw [if_pos e, if_pos (by rw [e]), nI_1]
    · rw [if_neg e, if_neg (fun q => e ((nI_eq (by omega) (by omega)).mp q)), show (0 : Int32) = nI 0 from rfl, nI_add]
  · rintro _ rfl
    unfold f_M_bound_L28
    try dsimp only
    rw [hL.1, if_pos (nI_le (Nat.le_refl _) (by omega)), fm_some, fm_Kr]
theorem fy_printers {l : Nat} {μ : fw_M} {T : List fm_Ty} (hT : rT (μ.1 0 0) (μ.1 1) (μ.1 2) (μ.1 3) T) (wt : wT T) (hl : l < 12) : fw_wh (f_M_bound_L65 μ (nI l)) fw_N (0, 0) = some (nI (fm_pb T l T.length)) := by
  have h10 := wt.1
  apply fm_eq
  refine fm_up (P := fun i s => s = (nI (fm_pb T l i), nI i)) T.length ?_ ?_ 0 (Nat.zero_le _) rfl (by omega)
  · rintro i _ hi rfl
    obtain ⟨b1, b2, b3⟩ := hT.2 i hi
    obtain ⟨c1, c2, c3⟩ := fm_ok_lt (wt.2 i hi)
    have r : ∀ f : Nat → Int32, fw_rd 10 f (nI i) = some (f i) := fun f => fm_rd (by omega) (by omega)
    have k1 : nI (fm_tt T i).1 = 1 ↔ (fm_tt T i).1 = 1 := nI_eq (b := 1) (by omega) (by omega)
    have k2 : nI (fm_tt T i).1 = 2 ↔ (fm_tt T i).1 = 2 := nI_eq (b := 2) (by omega) (by omega)
    have k3 : nI (fm_tt T i).2.1 = nI l ↔ (fm_tt T i).2.1 = l := nI_eq (by omega) (by omega)
    have k4 : nI (fm_tt T i).2.2 = nI l ↔ (fm_tt T i).2.2 = l := nI_eq (by omega) (by omega)
    unfold f_M_bound_L65
    try dsimp only
    rw [hT.1, if_neg (nI_ge hi (by omega))]
    show fm_T _ (fm_K (fun s1 => s1 = (nI (fm_pb T l i + (if (fm_tt T i).2.1 = l then 1 else 0) + (if ((fm_tt T i).1 = 1 ∨ (fm_tt T i).1 = 2) ∧ (fm_tt T i).2.2 = l then 1 else 0)), nI (i + 1))) _)
    simp only [r, fm_bs, b1, b2, b3, k1, k2, k3, k4, fm_nmE, nI_1]
    by_cases e1 : (fm_tt T i).2.1 = l <;> by_cases e2 : (fm_tt T i).1 = 1 <;> by_cases e3 : (fm_tt T i).1 = 2 <;> by_cases e4 : (fm_tt T i).2.2 = l <;> simp [e1, e2, e3, e4, fm_some, fm_Kl, fm_bs, nI_1]
  · rintro _ rfl
    unfold f_M_bound_L65
    try dsimp only
    rw [hT.1, if_pos (nI_le (Nat.le_refl _) (by omega)), fm_some, fm_Kr]
theorem fx_cut {o b : Nat} (ho : o < 10000) (hb : b < 10000) (h1 : 1 ≤ b) : f_X_cutUp (nI o) (nI b) = some (nI ((o + b - 1) / b)) := by
  unfold f_X_cutUp
  rw [if_pos (show (1 : Int32) ≤ nI b from (nI_leI (a := 1) (by omega) (by omega)).mpr h1), nI_add, fm_pred (by omega), fm_dv (by omega) (by omega) (by omega), fm_bs, fm_bs]
theorem fo_bound : fw_O_bound fm_I := by
  intro n μx μm hn hI
  have hI2 := hI.up
  obtain ⟨⟨C, wc, xs, ms, kp⟩, -⟩ := hI
  have h10 := wc.2.1.1
  have t10 := wc.1.1
  have l1 : μx.1 6 1 = nI C.2.1.1.length := xs.2.1.1.1
  have l2 : μm.1 0 6 = nI C.2.1.1.length := ms.2.1.1.1
  unfold f_X_bound f_M_bound
  rw [l1, l2]
  by_cases h0 : C.2.1.1.length = 0
  · rw [h0, if_pos (show nI 0 = 0 from rfl)]
    exact ⟨_, rfl, rfl, hI2⟩
  · have hne : ¬ nI C.2.1.1.length = 0 := nI_ne0 (by omega) (by omega)
    rw [if_neg hne, if_neg hne]
    have own99 : ∀ l, fm_own (fm_of C.2.1 l C.2.1.1.length) (fm_pb C.1 l C.1.length) < 100 := fun l => by
      have q1 := fm_of_le C.2.1 l C.2.1.1.length
      have q2 := fm_pb_le C.1 l C.1.length
      unfold fm_own
      split
      · omega
      · split
        · omega
        · exact Nat.lt_of_le_of_lt (Nat.div_le_self _ _) (by omega)
    have bd99 : ∀ l, fm_bd C.1 C.2.1 l < 100 := fun l => by
      induction l with
      | zero => show 0 < 100; omega
      | succ l ih =>
        unfold fm_bd
        split
        · exact own99 l
        · exact ih
    have hx : fw_wh (f_X_bound_L20 μx) fw_N (0, 0) = some (nI (fm_bd C.1 C.2.1 12)) := by
      apply fm_eq
      refine fm_up (P := fun i s => s = (nI (fm_bd C.1 C.2.1 i), nI i)) 12 ?_ ?_ 0 (Nat.zero_le _) rfl (by omega)
      · rintro i _ hi rfl
        have q1 := fm_of_le C.2.1 i C.2.1.1.length
        have q2 := fm_pb_le C.1 i C.1.length
        have b1 := bd99 i
        have b2 := own99 i
        unfold f_X_bound_L20
        try dsimp only
        rw [if_neg (fh_nge (c := 12) (b := 12) rfl hi (by omega)), fx_often xs.2.1 wc.2.1 hi, fm_bs, fx_printers xs.1 wc.1 hi, fm_bs]
        show fm_T _ (fm_K (fun s1 => s1 = (nI (if fm_bd C.1 C.2.1 i < fm_own (fm_of C.2.1 i C.2.1.1.length) (fm_pb C.1 i C.1.length) then fm_own (fm_of C.2.1 i C.2.1.1.length) (fm_pb C.1 i C.1.length) else fm_bd C.1 C.2.1 i), nI (i + 1))) _)
        by_cases e0 : fm_of C.2.1 i C.2.1.1.length = 0
        · rw [e0, if_pos (show nI 0 ≤ 0 by decide), fm_bs, fm_nm, fm_some, fm_Kl, nI_1, show fm_own 0 (fm_pb C.1 i C.1.length) = 0 from rfl, if_neg (by omega)]
        · rw [if_neg (nI_nle (by omega) (by omega))]
          have fin : ∀ w : Nat, w < 100 → fm_own (fm_of C.2.1 i C.2.1.1.length) (fm_pb C.1 i C.1.length) = w → (if nI (fm_bd C.1 C.2.1 i) < nI w then nI w else nI (fm_bd C.1 C.2.1 i)) = nI (if fm_bd C.1 C.2.1 i < w then w else fm_bd C.1 C.2.1 i) := by
            intro w hw _
            by_cases q : fm_bd C.1 C.2.1 i < w
            · rw [if_pos q, if_pos (nI_lt q (by omega))]
            · rw [if_neg q, if_neg (nI_nlt (by omega) (by omega))]
          by_cases e1 : fm_pb C.1 i C.1.length = 0
          · have eo : fm_own (fm_of C.2.1 i C.2.1.1.length) (fm_pb C.1 i C.1.length) = 99 := by unfold fm_own; rw [if_neg e0, if_pos e1]
            rw [eo, e1, if_pos (show nI 0 = 0 from rfl), fm_bs, fm_nmE, fm_bs, fm_nm, fm_some, fm_Kl, nI_1, show (99 : Int32) = nI 99 from rfl, fin 99 (by omega) eo]
          · have eo : fm_own (fm_of C.2.1 i C.2.1.1.length) (fm_pb C.1 i C.1.length) = (fm_of C.2.1 i C.2.1.1.length + fm_pb C.1 i C.1.length - 1) / fm_pb C.1 i C.1.length := by unfold fm_own; rw [if_neg e0, if_neg e1]
            rw [if_neg (nI_ne0 (by omega) (by omega)), fx_cut (by omega) (by omega) (by omega), fm_bs, fm_bs, fm_nmE, fm_bs, fm_nm, fm_some, fm_Kl, nI_1, ← eo, fin _ b2 rfl]
      · rintro _ rfl
        unfold f_X_bound_L20
        try dsimp only
        rw [if_pos (show (12 : Int32) ≤ nI 12 by decide), fm_some, fm_Kr]
    have hm : fw_wh (f_M_bound_L14 μm) fw_N (0, 0) = some (nI (fm_bd C.1 C.2.1 12)) := by
      apply fm_eq
      refine fm_up (P := fun i s => s = (nI (fm_bd C.1 C.2.1 i), nI i)) 12 ?_ ?_ 0 (Nat.zero_le _) rfl (by omega)
      · rintro i _ hi rfl
        have q1 := fm_of_le C.2.1 i C.2.1.1.length
        have q2 := fm_pb_le C.1 i C.1.length
        have b1 := bd99 i
        have b2 := own99 i
        unfold f_M_bound_L14
        try dsimp only
        rw [if_neg (fh_nge (c := 12) (b := 12) rfl hi (by omega)), fy_often ms.2.1.1 wc.2.1 hi, fm_bs, fy_printers ms.1 wc.1 hi, fm_bs]
        show fm_T _ (fm_K (fun s1 => s1 = (nI (if fm_bd C.1 C.2.1 i < fm_own (fm_of C.2.1 i C.2.1.1.length) (fm_pb C.1 i C.1.length) then fm_own (fm_of C.2.1 i C.2.1.1.length) (fm_pb C.1 i C.1.length) else fm_bd C.1 C.2.1 i), nI (i + 1))) _)
        have fin : ∀ w : Nat, w < 100 → (if nI w ≤ nI (fm_bd C.1 C.2.1 i) then nI (fm_bd C.1 C.2.1 i) else nI w) = nI (if fm_bd C.1 C.2.1 i < w then w else fm_bd C.1 C.2.1 i) := by
          intro w hw
          by_cases q : fm_bd C.1 C.2.1 i < w
          · rw [if_pos q, if_neg (nI_ge q (by omega))]
          · rw [if_neg q, if_pos (nI_le (by omega) (by omega))]
        have eo : (if nI (fm_of C.2.1 i C.2.1.1.length) = 0 then (some 0 : Option Int32) else if nI (fm_pb C.1 i C.1.length) = 0 then some 99 else (fw_dv ((nI (fm_of C.2.1 i C.2.1.1.length) + nI (fm_pb C.1 i C.1.length)) - 1) (nI (fm_pb C.1 i C.1.length))).bind fun v170 => some v170) = some (nI (fm_own (fm_of C.2.1 i C.2.1.1.length) (fm_pb C.1 i C.1.length))) := by
          unfold fm_own
          by_cases e0 : fm_of C.2.1 i C.2.1.1.length = 0
          · rw [e0, if_pos (show nI 0 = 0 from rfl), if_pos rfl]; rfl
          · rw [if_neg (nI_ne0 (by omega) (by omega)), if_neg e0]
            by_cases e1 : fm_pb C.1 i C.1.length = 0
            · rw [e1, if_pos (show nI 0 = 0 from rfl), if_pos rfl]; rfl
            · rw [if_neg (nI_ne0 (by omega) (by omega)), if_neg e1, nI_add, fm_pred (by omega), fm_dv (by omega) (by omega) (by omega)]; rfl
        rw [eo, fm_bs, fm_nmE, fm_nm, fm_some, fm_Kl, fin _ b2, nI_1]
      · rintro _ rfl
        unfold f_M_bound_L14
        try dsimp only
        rw [if_pos (show (12 : Int32) ≤ nI 12 by decide), fm_some, fm_Kr]
    rw [hx, hm]
    exact ⟨_, rfl, rfl, hI2⟩
