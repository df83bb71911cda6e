def fw_x0 : fw_M := (fun k => if k = 8 then fw_w2 else if k = 39 then fw_w2 else if k = 9 then va_cpy fw_s3 (fun _ => 0) 0 0 3 else if k = 40 then va_cpy fw_s3 (fun _ => 0) 0 0 3 else if k = 65 then (fun j => if j = 9 then 1 else 0) else fun _ => 0, fun _ _ => 0)
def fw_y0 : fw_M := (fun k => if k = 4 then (upd (upd (upd (upd (upd (upd (upd (upd (upd (upd (upd (upd (fun _ => 0) 0 2) 1 2) 2 2) 3 2) 4 2) 5 2) 6 2) 7 2) 8 2) 9 2) 10 2) 11 2) else if k = 5 then (upd (fun _ => 0) 2 4) else if k = 24 then (upd (upd (upd (upd (fun _ => 0) 0 (-1)) 1 (-1)) 2 (-1)) 3 (-1)) else fun _ => 0, fun _ _ => 0)

def fw_fgo (ad : Nat → Nat) (μ : fw_M) (k : Nat) : Nat → List (Option Nat) → List Value
  | _, [] => []
  | j, o :: t => fw_fe ad μ k j o :: fw_fgo ad μ k (j + 1) t
theorem fw_fgo_get (ad : Nat → Nat) (μ : fw_M) (k : Nat) : ∀ (fs : List (Option Nat)) (j i : Nat), (fw_fgo ad μ k j fs)[i]? = (fs[i]?).map (fw_fe ad μ k (j + i)) := by
  intro fs
  induction fs with
  | nil => intro j i; simp [fw_fgo]
  | cons o t ih =>
    intro j i
    cases i with
    | zero => simp [fw_fgo]
    | succ i => simp [fw_fgo, ih, Nat.add_assoc, Nat.add_comm 1 i]
theorem fw_ce_o (ad : Nat → Nat) (dA : Nat → ClassId) (μ : fw_M) (k ci : Nat) (fs : List (Option Nat)) : fw_ce ad dA μ k (.inl (ci, fs)) = .inr (ci, fw_fgo ad μ k 0 fs) := by
  have h : fs.mapIdx (fw_fe ad μ k) = fw_fgo ad μ k 0 fs := by
    apply List.ext_getElem?
    intro i
    rw [fw_fgo_get]
    simp [List.getElem?_mapIdx]
  show Sum.inr (ci, fs.mapIdx (fw_fe ad μ k)) = _
  rw [h]
set_option maxHeartbeats 4000000 in
set_option maxRecDepth 100000 in
theorem fw_hX (dA : Nat → ClassId) (h0 q1 q2 q3 q4 q5 q6 q7 q15 q8 q9 q16 q17 q18 q19 q20 q21 q22 q23 q24 q25 q26 q27 q28 q29 q30 q31 q10 q11 q12 q13 q14 q32 q33 q34 q35 q36 q37 q38 q46 q39 q40 q47 q48 q49 q50 q51 q52 q53 q54 q55 q56 q57 q58 q59 q60 q61 q62 q41 q42 q43 q44 q45 q63 q64 q65 q66 q67 q68 q69 q70 q71 q72 q73 q74 q75 q76 q77 q78 q79 q80 q81 q82 q83 q84 q85 q86 q87 q88 q89 q90 q91 q92 q93 : Nat) {ax : Nat → Nat} (eax : ax = (fun k => ([h0, q1, q2, q3, q4, q5, q6, q7, q15, q8, q9, q16, q17, q18, q19, q20, q21, q22, q23, q24, q25, q26, q27, q28, q29, q30, q31, q10, q11, q12, q13, q14, q32, q33, q34, q35, q36, q37, q38, q46, q39, q40, q47, q48, q49, q50, q51, q52, q53, q54, q55, q56, q57, q58, q59, q60, q61, q62, q41, q42, q43, q44, q45, q63, q64, q65, q66, q67, q68, q69, q70, q71, q72, q73, q74, q75, q76, q77, q78, q79, q80, q81, q82, q83, q84, q85, q86, q87, q88, q89, q90, q91, q92, q93] : List Nat).getD k 0)) : ∀ (k : Nat) (s : fw_K), fw_X[k]? = some s → ([(h0, .inr (8, [.ref q1, .ref q32, .int 0, .ref q63, .ref q65, .ref q71, .ref q75, .ref q77, .ref q81, .ref q82, .ref q83, .ref q84, .ref q85])), (q1, .inr (6, [.ref q2, .ref q6, .ref q15, .ref q8, .ref q9, .ref q10, .int 0, .ref q11])), (q2, .inr (0, [.ref q3, .ref q4, .ref q5, .int 0])), (q3, .inl (dA 0, 10, .inl (fun _ => 0))), (q4, .inl (dA 0, 10, .inl (fun _ => 0))), (q5, .inl (dA 0, 10, .inl (fun _ => 0))), (q6, .inr (2, [.ref q7, .int 0, .int 0])), (q7, .inl (dA 0, 10, .inl (fun _ => 0))), (q15, .inl (dA 0, 12, .inl fw_w2)), (q8, .inl (dA 0, 3, .inl (va_cpy fw_s3 (fun _ => 0) 0 0 3))), (q9, .inl (dA 3, 8, .inr (.inr (.inr (.inr (fun i => (([11, 13, 15, 17, 19, 21, 23, 25] : List Nat)[i]?).map ax)))))), (q16, .inr (2, [.ref q17, .int 0, .int 0])), (q17, .inl (dA 0, 10, .inl (fun _ => 0))), (q18, .inr (2, [.ref q19, .int 0, .int 0])), (q19, .inl (dA 0, 10, .inl (fun _ => 0))), (q20, .inr (2, [.ref q21, .int 0, .int 0])), (q21, .inl (dA 0, 10, .inl (fun _ => 0))), (q22, .inr (2, [.ref q23, .int 0, .int 0])), (q23, .inl (dA 0, 10, .inl (fun _ => 0))), (q24, .inr (2, [.ref q25, .int 0, .int 0])), (q25, .inl (dA 0, 10, .inl (fun _ => 0))), (q26, .inr (2, [.ref q27, .int 0, .int 0])), (q27, .inl (dA 0, 10, .inl (fun _ => 0))), (q28, .inr (2, [.ref q29, .int 0, .int 0])), (q29, .inl (dA 0, 10, .inl (fun _ => 0))), (q30, .inr (2, [.ref q31, .int 0, .int 0])), (q31, .inl (dA 0, 10, .inl (fun _ => 0))), (q10, .inl (dA 0, 8, .inl (fun _ => 0))), (q11, .inr (1, [.ref q12, .ref q13, .ref q14, .int 0])), (q12, .inl (dA 0, 8, .inl (fun _ => 0))), (q13, .inl (dA 0, 8, .inl (fun _ => 0))), (q14, .inl (dA 0, 8, .inl (fun _ => 0))), (q32, .inr (6, [.ref q33, .ref q37, .ref q46, .ref q39, .ref q40, .ref q41, .int 0, .ref q42])), (q33, .inr (0, [.ref q34, .ref q35, .ref q36, .int 0])), (q34, .inl (dA 0, 10, .inl (fun _ => 0))), (q35, .inl (dA 0, 10, .inl (fun _ => 0))), (q36, .inl (dA 0, 10, .inl (fun _ => 0))), (q37, .inr (2, [.ref q38, .int 0, .int 0])), (q38, .inl (dA 0, 10, .inl (fun _ => 0))), (q46, .inl (dA 0, 12, .inl fw_w2)), (q39, .inl (dA 0, 3, .inl (va_cpy fw_s3 (fun _ => 0) 0 0 3))), (q40, .inl (dA 3, 8, .inr (.inr (.inr (.inr (fun i => (([42, 44, 46, 48, 50, 52, 54, 56] : List Nat)[i]?).map ax)))))), (q47, .inr (2, [.ref q48, .int 0, .int 0])), (q48, .inl (dA 0, 10, .inl (fun _ => 0))), (q49, .inr (2, [.ref q50, .int 0, .int 0])), (q50, .inl (dA 0, 10, .inl (fun _ => 0))), (q51, .inr (2, [.ref q52, .int 0, .int 0])), (q52, .inl (dA 0, 10, .inl (fun _ => 0))), (q53, .inr (2, [.ref q54, .int 0, .int 0])), (q54, .inl (dA 0, 10, .inl (fun _ => 0))), (q55, .inr (2, [.ref q56, .int 0, .int 0])), (q56, .inl (dA 0, 10, .inl (fun _ => 0))), (q57, .inr (2, [.ref q58, .int 0, .int 0])), (q58, .inl (dA 0, 10, .inl (fun _ => 0))), (q59, .inr (2, [.ref q60, .int 0, .int 0])), (q60, .inl (dA 0, 10, .inl (fun _ => 0))), (q61, .inr (2, [.ref q62, .int 0, .int 0])), (q62, .inl (dA 0, 10, .inl (fun _ => 0))), (q41, .inl (dA 0, 8, .inl (fun _ => 0))), (q42, .inr (1, [.ref q43, .ref q44, .ref q45, .int 0])), (q43, .inl (dA 0, 8, .inl (fun _ => 0))), (q44, .inl (dA 0, 8, .inl (fun _ => 0))), (q45, .inl (dA 0, 8, .inl (fun _ => 0))), (q63, .inr (7, [.ref q64, .int 0, .int 0])), (q64, .inl (dA 0, 60, .inl (fun _ => 0))), (q65, .inr (4, [.ref q66, .ref q67, .ref q68, .ref q69, .ref q70, .int 0, .int 0, .int 0, .int 0, .int 1, .int 0])), (q66, .inl (dA 0, 10, .inl (fun _ => 0))), (q67, .inl (dA 0, 10, .inl (fun _ => 0))), (q68, .inl (dA 0, 10, .inl (fun _ => 0))), (q69, .inl (dA 2, 176, .inr (.inl (fun _ => 0)))), (q70, .inl (dA 0, 1024, .inl (fun _ => 0))), (q71, .inr (3, [.ref q72, .ref q73, .ref q74, .int 0, .int 0])), (q72, .inl (dA 0, 216, .inl (fun _ => 0))), (q73, .inl (dA 0, 6, .inl (fun _ => 0))), (q74, .inl (dA 0, 6, .inl (fun _ => 0))), (q75, .inr (2, [.ref q76, .int 0, .int 0])), (q76, .inl (dA 0, 10, .inl (fun _ => 0))), (q77, .inr (0, [.ref q78, .ref q79, .ref q80, .int 0])), (q78, .inl (dA 0, 10, .inl (fun _ => 0))), (q79, .inl (dA 0, 10, .inl (fun _ => 0))), (q80, .inl (dA 0, 10, .inl (fun _ => 0))), (q81, .inl (dA 0, 9, .inl (fun _ => 0))), (q82, .inl (dA 0, 10, .inl (fun _ => 0))), (q83, .inl (dA 0, 10, .inl (fun _ => 0))), (q84, .inl (dA 0, 10, .inl (fun _ => 0))), (q85, .inl (dA 4, 4, .inr (.inr (.inr (.inr (fun i => (([86, 88, 90, 92] : List Nat)[i]?).map ax)))))), (q86, .inr (5, [.ref q87, .int 0, .int 0, .int 0])), (q87, .inl (dA 0, 24, .inl (fun _ => 0))), (q88, .inr (5, [.ref q89, .int 0, .int 0, .int 0])), (q89, .inl (dA 0, 24, .inl (fun _ => 0))), (q90, .inr (5, [.ref q91, .int 0, .int 0, .int 0])), (q91, .inl (dA 0, 24, .inl (fun _ => 0))), (q92, .inr (5, [.ref q93, .int 0, .int 0, .int 0])), (q93, .inl (dA 0, 24, .inl (fun _ => 0)))] : va_W)[k]? = some (ax k, fw_ce ax dA fw_x0 k s) := by
  intro k s hs
  subst eax
  match k with
  | 0 => obtain rfl := Option.some.inj (fw_X0.symm.trans hs); rw [fw_ce_o]; rfl
  | 1 => obtain rfl := Option.some.inj (fw_X1.symm.trans hs); rw [fw_ce_o]; rfl
  | 2 => obtain rfl := Option.some.inj (fw_X2.symm.trans hs); rw [fw_ce_o]; rfl
  | 3 => obtain rfl := Option.some.inj (fw_X3.symm.trans hs); rfl
  | 4 => obtain rfl := Option.some.inj (fw_X4.symm.trans hs); rfl
  | 5 => obtain rfl := Option.some.inj (fw_X5.symm.trans hs); rfl
  | 6 => obtain rfl := Option.some.inj (fw_X6.symm.trans hs); rw [fw_ce_o]; rfl
  | 7 => obtain rfl := Option.some.inj (fw_X7.symm.trans hs); rfl
  | 8 => obtain rfl := Option.some.inj (fw_X8.symm.trans hs); rfl
  | 9 => obtain rfl := Option.some.inj (fw_X9.symm.trans hs); rfl
  | 10 => obtain rfl := Option.some.inj (fw_X10.symm.trans hs); rfl
  | 11 => obtain rfl := Option.some.inj (fw_X11.symm.trans hs); rw [fw_ce_o]; rfl
  | 12 => obtain rfl := Option.some.inj (fw_X12.symm.trans hs); rfl
  | 13 => obtain rfl := Option.some.inj (fw_X13.symm.trans hs); rw [fw_ce_o]; rfl
  | 14 => obtain rfl := Option.some.inj (fw_X14.symm.trans hs); rfl
  | 15 => obtain rfl := Option.some.inj (fw_X15.symm.trans hs); rw [fw_ce_o]; rfl
  | 16 => obtain rfl := Option.some.inj (fw_X16.symm.trans hs); rfl
  | 17 => obtain rfl := Option.some.inj (fw_X17.symm.trans hs); rw [fw_ce_o]; rfl
  | 18 => obtain rfl := Option.some.inj (fw_X18.symm.trans hs); rfl
  | 19 => obtain rfl := Option.some.inj (fw_X19.symm.trans hs); rw [fw_ce_o]; rfl
  | 20 => obtain rfl := Option.some.inj (fw_X20.symm.trans hs); rfl
  | 21 => obtain rfl := Option.some.inj (fw_X21.symm.trans hs); rw [fw_ce_o]; rfl
  | 22 => obtain rfl := Option.some.inj (fw_X22.symm.trans hs); rfl
  | 23 => obtain rfl := Option.some.inj (fw_X23.symm.trans hs); rw [fw_ce_o]; rfl
  | 24 => obtain rfl := Option.some.inj (fw_X24.symm.trans hs); rfl
  | 25 => obtain rfl := Option.some.inj (fw_X25.symm.trans hs); rw [fw_ce_o]; rfl
  | 26 => obtain rfl := Option.some.inj (fw_X26.symm.trans hs); rfl
  | 27 => obtain rfl := Option.some.inj (fw_X27.symm.trans hs); rfl
  | 28 => obtain rfl := Option.some.inj (fw_X28.symm.trans hs); rw [fw_ce_o]; rfl
  | 29 => obtain rfl := Option.some.inj (fw_X29.symm.trans hs); rfl
  | 30 => obtain rfl := Option.some.inj (fw_X30.symm.trans hs); rfl
  | 31 => obtain rfl := Option.some.inj (fw_X31.symm.trans hs); rfl
  | 32 => obtain rfl := Option.some.inj (fw_X32.symm.trans hs); rw [fw_ce_o]; rfl
  | 33 => obtain rfl := Option.some.inj (fw_X33.symm.trans hs); rw [fw_ce_o]; rfl
  | 34 => obtain rfl := Option.some.inj (fw_X34.symm.trans hs); rfl
  | 35 => obtain rfl := Option.some.inj (fw_X35.symm.trans hs); rfl
  | 36 => obtain rfl := Option.some.inj (fw_X36.symm.trans hs); rfl
  | 37 => obtain rfl := Option.some.inj (fw_X37.symm.trans hs); rw [fw_ce_o]; rfl
  | 38 => obtain rfl := Option.some.inj (fw_X38.symm.trans hs); rfl
  | 39 => obtain rfl := Option.some.inj (fw_X39.symm.trans hs); rfl
  | 40 => obtain rfl := Option.some.inj (fw_X40.symm.trans hs); rfl
  | 41 => obtain rfl := Option.some.inj (fw_X41.symm.trans hs); rfl
  | 42 => obtain rfl := Option.some.inj (fw_X42.symm.trans hs); rw [fw_ce_o]; rfl
  | 43 => obtain rfl := Option.some.inj (fw_X43.symm.trans hs); rfl
  | 44 => obtain rfl := Option.some.inj (fw_X44.symm.trans hs); rw [fw_ce_o]; rfl
  | 45 => obtain rfl := Option.some.inj (fw_X45.symm.trans hs); rfl
  | 46 => obtain rfl := Option.some.inj (fw_X46.symm.trans hs); rw [fw_ce_o]; rfl
  | 47 => obtain rfl := Option.some.inj (fw_X47.symm.trans hs); rfl
  | 48 => obtain rfl := Option.some.inj (fw_X48.symm.trans hs); rw [fw_ce_o]; rfl
  | 49 => obtain rfl := Option.some.inj (fw_X49.symm.trans hs); rfl
  | 50 => obtain rfl := Option.some.inj (fw_X50.symm.trans hs); rw [fw_ce_o]; rfl
  | 51 => obtain rfl := Option.some.inj (fw_X51.symm.trans hs); rfl
  | 52 => obtain rfl := Option.some.inj (fw_X52.symm.trans hs); rw [fw_ce_o]; rfl
  | 53 => obtain rfl := Option.some.inj (fw_X53.symm.trans hs); rfl
  | 54 => obtain rfl := Option.some.inj (fw_X54.symm.trans hs); rw [fw_ce_o]; rfl
  | 55 => obtain rfl := Option.some.inj (fw_X55.symm.trans hs); rfl
  | 56 => obtain rfl := Option.some.inj (fw_X56.symm.trans hs); rw [fw_ce_o]; rfl
  | 57 => obtain rfl := Option.some.inj (fw_X57.symm.trans hs); rfl
  | 58 => obtain rfl := Option.some.inj (fw_X58.symm.trans hs); rfl
  | 59 => obtain rfl := Option.some.inj (fw_X59.symm.trans hs); rw [fw_ce_o]; rfl
  | 60 => obtain rfl := Option.some.inj (fw_X60.symm.trans hs); rfl
  | 61 => obtain rfl := Option.some.inj (fw_X61.symm.trans hs); rfl
  | 62 => obtain rfl := Option.some.inj (fw_X62.symm.trans hs); rfl
  | 63 => obtain rfl := Option.some.inj (fw_X63.symm.trans hs); rw [fw_ce_o]; rfl
  | 64 => obtain rfl := Option.some.inj (fw_X64.symm.trans hs); rfl
  | 65 => obtain rfl := Option.some.inj (fw_X65.symm.trans hs); rw [fw_ce_o]; rfl
  | 66 => obtain rfl := Option.some.inj (fw_X66.symm.trans hs); rfl
  | 67 => obtain rfl := Option.some.inj (fw_X67.symm.trans hs); rfl
  | 68 => obtain rfl := Option.some.inj (fw_X68.symm.trans hs); rfl
  | 69 => obtain rfl := Option.some.inj (fw_X69.symm.trans hs); rfl
  | 70 => obtain rfl := Option.some.inj (fw_X70.symm.trans hs); rfl
  | 71 => obtain rfl := Option.some.inj (fw_X71.symm.trans hs); rw [fw_ce_o]; rfl
  | 72 => obtain rfl := Option.some.inj (fw_X72.symm.trans hs); rfl
  | 73 => obtain rfl := Option.some.inj (fw_X73.symm.trans hs); rfl
  | 74 => obtain rfl := Option.some.inj (fw_X74.symm.trans hs); rfl
  | 75 => obtain rfl := Option.some.inj (fw_X75.symm.trans hs); rw [fw_ce_o]; rfl
  | 76 => obtain rfl := Option.some.inj (fw_X76.symm.trans hs); rfl
  | 77 => obtain rfl := Option.some.inj (fw_X77.symm.trans hs); rw [fw_ce_o]; rfl
  | 78 => obtain rfl := Option.some.inj (fw_X78.symm.trans hs); rfl
  | 79 => obtain rfl := Option.some.inj (fw_X79.symm.trans hs); rfl
  | 80 => obtain rfl := Option.some.inj (fw_X80.symm.trans hs); rfl
  | 81 => obtain rfl := Option.some.inj (fw_X81.symm.trans hs); rfl
  | 82 => obtain rfl := Option.some.inj (fw_X82.symm.trans hs); rfl
  | 83 => obtain rfl := Option.some.inj (fw_X83.symm.trans hs); rfl
  | 84 => obtain rfl := Option.some.inj (fw_X84.symm.trans hs); rfl
  | 85 => obtain rfl := Option.some.inj (fw_X85.symm.trans hs); rfl
  | 86 => obtain rfl := Option.some.inj (fw_X86.symm.trans hs); rw [fw_ce_o]; rfl
  | 87 => obtain rfl := Option.some.inj (fw_X87.symm.trans hs); rfl
  | 88 => obtain rfl := Option.some.inj (fw_X88.symm.trans hs); rw [fw_ce_o]; rfl
  | 89 => obtain rfl := Option.some.inj (fw_X89.symm.trans hs); rfl
  | 90 => obtain rfl := Option.some.inj (fw_X90.symm.trans hs); rw [fw_ce_o]; rfl
  | 91 => obtain rfl := Option.some.inj (fw_X91.symm.trans hs); rfl
  | 92 => obtain rfl := Option.some.inj (fw_X92.symm.trans hs); rw [fw_ce_o]; rfl
  | 93 => obtain rfl := Option.some.inj (fw_X93.symm.trans hs); rfl
  | k + 94 => cases hs
set_option maxHeartbeats 4000000 in
set_option maxRecDepth 100000 in
theorem fw_hM (dA : Nat → ClassId) (h0 q1 q2 q3 q4 q5 q6 q7 q8 q9 q10 q11 q12 q13 q14 q15 q16 q17 q18 q19 q20 q21 q22 q23 q24 q25 q26 q27 : Nat) {ax : Nat → Nat} (eax : ax = (fun k => ([h0, q1, q2, q3, q4, q5, q6, q7, q8, q9, q10, q11, q12, q13, q14, q15, q16, q17, q18, q19, q20, q21, q22, q23, q24, q25, q26, q27] : List Nat).getD k 0)) : ∀ (k : Nat) (s : fw_K), fw_Mo[k]? = some s → ([(h0, .inr (9, [.int 0, .ref q1, .ref q2, .ref q3, .ref q4, .ref q5, .int 0, .ref q6, .int 0, .int 0, .ref q7, .int 0, .ref q8, .ref q9, .ref q10, .int 0, .int 0, .int 0, .ref q11, .ref q12, .ref q13, .int 0, .ref q14, .ref q15, .ref q16, .ref q17, .ref q18, .ref q19, .ref q20, .ref q21, .ref q22, .ref q23, .int 0, .ref q24, .ref q25, .ref q26, .ref q27])), (q1, .inl (dA 0, 10, .inl (fun _ => 0))), (q2, .inl (dA 0, 10, .inl (fun _ => 0))), (q3, .inl (dA 0, 10, .inl (fun _ => 0))), (q4, .inl (dA 0, 12, .inl (upd (upd (upd (upd (upd (upd (upd (upd (upd (upd (upd (upd (fun _ => 0) 0 2) 1 2) 2 2) 3 2) 4 2) 5 2) 6 2) 7 2) 8 2) 9 2) 10 2) 11 2))), (q5, .inl (dA 0, 3, .inl (upd (fun _ => 0) 2 4))), (q6, .inl (dA 0, 10, .inl (fun _ => 0))), (q7, .inl (dA 0, 104, .inl (fun _ => 0))), (q8, .inl (dA 0, 8, .inl (fun _ => 0))), (q9, .inl (dA 0, 8, .inl (fun _ => 0))), (q10, .inl (dA 0, 60, .inl (fun _ => 0))), (q11, .inl (dA 0, 30, .inl (fun _ => 0))), (q12, .inl (dA 1, 11264, .inl (fun _ => 0))), (q13, .inl (dA 0, 11264, .inl (fun _ => 0))), (q14, .inl (dA 0, 10, .inl (fun _ => 0))), (q15, .inl (dA 1, 1024, .inl (fun _ => 0))), (q16, .inl (dA 0, 1024, .inl (fun _ => 0))), (q17, .inl (dA 0, 10, .inl (fun _ => 0))), (q18, .inl (dA 0, 6, .inl (fun _ => 0))), (q19, .inl (dA 0, 6, .inl (fun _ => 0))), (q20, .inl (dA 0, 10, .inl (fun _ => 0))), (q21, .inl (dA 0, 10, .inl (fun _ => 0))), (q22, .inl (dA 0, 12, .inl (fun _ => 0))), (q23, .inl (dA 0, 190, .inl (fun _ => 0))), (q24, .inl (dA 0, 4, .inl (upd (upd (upd (upd (fun _ => 0) 0 (-1)) 1 (-1)) 2 (-1)) 3 (-1)))), (q25, .inl (dA 0, 4, .inl (fun _ => 0))), (q26, .inl (dA 0, 96, .inl (fun _ => 0))), (q27, .inl (dA 0, 24, .inl (fun _ => 0)))] : va_W)[k]? = some (ax k, fw_ce ax dA fw_y0 k s) := by
  intro k s hs
  subst eax
  match k with
  | 0 => obtain rfl := Option.some.inj (fw_Mo0.symm.trans hs); rw [fw_ce_o]; rfl
  | 1 => obtain rfl := Option.some.inj (fw_Mo1.symm.trans hs); rfl
  | 2 => obtain rfl := Option.some.inj (fw_Mo2.symm.trans hs); rfl
  | 3 => obtain rfl := Option.some.inj (fw_Mo3.symm.trans hs); rfl
  | 4 => obtain rfl := Option.some.inj (fw_Mo4.symm.trans hs); rfl
  | 5 => obtain rfl := Option.some.inj (fw_Mo5.symm.trans hs); rfl
  | 6 => obtain rfl := Option.some.inj (fw_Mo6.symm.trans hs); rfl
  | 7 => obtain rfl := Option.some.inj (fw_Mo7.symm.trans hs); rfl
  | 8 => obtain rfl := Option.some.inj (fw_Mo8.symm.trans hs); rfl
  | 9 => obtain rfl := Option.some.inj (fw_Mo9.symm.trans hs); rfl
  | 10 => obtain rfl := Option.some.inj (fw_Mo10.symm.trans hs); rfl
  | 11 => obtain rfl := Option.some.inj (fw_Mo11.symm.trans hs); rfl
  | 12 => obtain rfl := Option.some.inj (fw_Mo12.symm.trans hs); rfl
  | 13 => obtain rfl := Option.some.inj (fw_Mo13.symm.trans hs); rfl
  | 14 => obtain rfl := Option.some.inj (fw_Mo14.symm.trans hs); rfl
  | 15 => obtain rfl := Option.some.inj (fw_Mo15.symm.trans hs); rfl
  | 16 => obtain rfl := Option.some.inj (fw_Mo16.symm.trans hs); rfl
  | 17 => obtain rfl := Option.some.inj (fw_Mo17.symm.trans hs); rfl
  | 18 => obtain rfl := Option.some.inj (fw_Mo18.symm.trans hs); rfl
  | 19 => obtain rfl := Option.some.inj (fw_Mo19.symm.trans hs); rfl
  | 20 => obtain rfl := Option.some.inj (fw_Mo20.symm.trans hs); rfl
  | 21 => obtain rfl := Option.some.inj (fw_Mo21.symm.trans hs); rfl
  | 22 => obtain rfl := Option.some.inj (fw_Mo22.symm.trans hs); rfl
  | 23 => obtain rfl := Option.some.inj (fw_Mo23.symm.trans hs); rfl
  | 24 => obtain rfl := Option.some.inj (fw_Mo24.symm.trans hs); rfl
  | 25 => obtain rfl := Option.some.inj (fw_Mo25.symm.trans hs); rfl
  | 26 => obtain rfl := Option.some.inj (fw_Mo26.symm.trans hs); rfl
  | 27 => obtain rfl := Option.some.inj (fw_Mo27.symm.trans hs); rfl
  | k + 28 => cases hs
theorem fw_fromP {sh : List fw_K} {E : va_W} {ad : Nat → Nat} {dA : Nat → ClassId} {μ : fw_M} {D : va_G} {H : Heap} (h : ∀ (k : Nat) (s : fw_K), sh[k]? = some s → E[k]? = some (ad k, fw_ce ad dA μ k s)) (hP : va_P D fw_cl E H) : va_P D fw_cl (fw_w sh ad dA μ) H := by
  intro k q hk
  simp only [fw_w, List.getElem?_mapIdx] at hk
  cases hs : sh[k]? with
  | none => rw [hs] at hk; cases hk
  | some s => rw [hs] at hk; cases hk; exact hP k _ (h k s hs)
theorem fw_fromD {sh : List fw_K} {E : va_W} {ad : Nat → Nat} {dA : Nat → ClassId} {μ : fw_M} {A : Nat → Prop} (h : ∀ (k : Nat) (s : fw_K), sh[k]? = some s → E[k]? = some (ad k, fw_ce ad dA μ k s)) (hD : va_D A E) : va_D A (fw_w sh ad dA μ) := by
  have g : ∀ (k : Nat) (q : Nat × va_E), (fw_w sh ad dA μ)[k]? = some q → E[k]? = some q := by
    intro k q hk
    simp only [fw_w, List.getElem?_mapIdx] at hk
    cases hs : sh[k]? with
    | none => rw [hs] at hk; cases hk
    | some s => rw [hs] at hk; cases hk; exact h k s hs
  exact ⟨fun i j p q h1 h2 e => hD.1 i j p q (g i p h1) (g j q h2) e, fun k q hk => hD.2 k q (g k q hk)⟩
