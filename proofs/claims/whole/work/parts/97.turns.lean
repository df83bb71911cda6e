/-! order: the next order -/
def t4 (l : List Nat) : Nat → Nat
  | 0 => 0
  | i + 1 => if l.getD i 0 ≤ l.getD (i + 1) 0 then i + 1 else t4 l i
def t41 (l : List Nat) (v : Nat) : Nat → Nat
  | 0 => 0
  | k + 1 => if v ≤ l.getD (k + 1) 0 then k + 1 else t41 l v k
def trv : Nat → Nat → Nat → List Nat → List Nat
  | 0, _, _, l => l
  | f + 1, a, b, l => if b ≤ a then l else trv f (a + 1) (b - 1) ((l.set a (l.getD b 0)).set b (l.getD a 0))
def nx (N : Nat) (l : List Nat) : Option (List Nat) :=
  if t4 l (N - 1) = 0 then none else some (trv 6 (t4 l (N - 1)) (N - 1) ((l.set (t4 l (N - 1) - 1) (l.getD (t41 l (l.getD (t4 l (N - 1) - 1) 0) (N - 1)) 0)).set (t41 l (l.getD (t4 l (N - 1) - 1) 0) (N - 1)) (l.getD (t4 l (N - 1) - 1) 0)))
theorem t4_le {l : List Nat} : ∀ i, t4 l i ≤ i := by
  intro i
  induction i with
  | zero => exact Nat.le_refl _
  | succ i ih =>
    rw [t4]
    by_cases c : l.getD i 0 ≤ l.getD (i + 1) 0
    · rw [if_pos c]; exact Nat.le_refl _
    · rw [if_neg c]; exact Nat.le_succ_of_le ih
def yS (μ : fw_M) (l : List Nat) : Prop := ∀ j, j < l.length → μ.1 18 j = nI (l.getD j 0) ∧ l.getD j 0 < 6
theorem fm_gDs {l : List Nat} {i j v : Nat} : (l.set i v).getD j 0 = if j = i ∧ j < l.length then v else l.getD j 0 := by
  rw [List.getD_eq_getElem?_getD, List.getD_eq_getElem?_getD, List.getElem?_set]
  by_cases e : i = j
  · subst e
    by_cases h : i < l.length
    · rw [if_pos rfl, if_pos h, if_pos ⟨rfl, h⟩]; rfl
    · rw [if_pos rfl, if_neg h, if_neg (fun z => h z.2), List.getElem?_eq_none (by omega)]
  · rw [if_neg e, if_neg (fun z => e z.1.symm)]
theorem yS.set {μ : fw_M} {l : List Nat} {i v : Nat} (h : yS μ l) (hv : v < 6) : yS (fw_wr μ 18 i (nI v)) (l.set i v) := fun j hj => by
  rw [List.length_set] at hj
  rw [fm_gDs, fm_wr]
  by_cases e : j = i
  · rw [if_pos ⟨rfl, e⟩, if_pos ⟨e, hj⟩]; exact ⟨rfl, hv⟩
  · rw [if_neg (fun z => e z.2), if_neg (fun z => e z.1)]; exact h j hj
theorem fy_turns {μ : fw_M} {N : Nat} {l : List Nat} (hN : l.length = N) (n1 : 1 ≤ N) (n6 : N ≤ 6) (h : yS μ l) : fm_T (f_M_turns (nI N) μ) (fun p => fm_F [18] μ p.2 ∧ ((p.1 = 0 ∧ nx N l = none) ∨ (p.1 = 1 ∧ ∃ l2, nx N l = some l2 ∧ l2.length = N ∧ yS p.2 l2))) := by
  subst hN
  unfold f_M_turns
  rw [fm_nm, fm_bind]
  have A : fm_T (fw_wh (f_M_turns_L4 μ) fw_N (nI l.length - 2)) (fun r => r = nD (t4 l (l.length - 1))) := by
    refine fm_dn (P := fun i s => s = nD i ∧ i + 1 ≤ l.length ∧ t4 l i = t4 l (l.length - 1)) ?_ ?_ (l.length - 1) ⟨?_, by omega, rfl⟩ (by omega)
    · rintro i s ⟨rfl, hi, ht⟩
      unfold f_M_turns_L4
      obtain ⟨a1, a2⟩ := h i (by omega)
      obtain ⟨b1, b2⟩ := h (i + 1) (by omega)
      rw [nD_s, if_neg (show ¬ nI i < 0 from nI_nlt (b := 0) (by omega) (by omega)), fm_rd (by omega) (by omega), fm_bs, nI_1, fm_rd (by omega) (by omega), fm_bs, a1, b1]
      rw [t4] at ht
      by_cases c : l.getD i 0 ≤ l.getD (i + 1) 0
      · rw [if_pos c] at ht
        rw [if_pos (nI_le c (by omega)), fm_some, fm_Kr, ← ht, nD_s]
      · rw [if_neg c] at ht
        rw [if_neg (nI_ge (by omega) (by omega)), fm_nm, fm_some, fm_Kl, nD_m]
        exact ⟨rfl, by omega, ht⟩
    · rintro s ⟨rfl, hi, ht⟩
      unfold f_M_turns_L4
      rw [if_pos (show nD 0 < 0 by decide), fm_some, fm_Kr, ← ht]
      rfl
    · show nI l.length - nI 2 = nI (l.length - 1) - nI 1
      rw [show nI (l.length - 1) = nI l.length - nI 1 from (fm_pred n1).symm, fi_sub]
  refine A.mono ?_
  rintro r rfl
  have tl := t4_le (l := l) (l.length - 1)
  by_cases z : t4 l (l.length - 1) = 0
  · rw [z, if_neg (show ¬ 0 ≤ nD 0 by decide), fm_some]
    refine ⟨fm_F.rf, Or.inl ⟨rfl, ?_⟩⟩
    unfold nx
    rw [if_pos z]
  · have hnx : nx l.length l = some (trv 6 (t4 l (l.length - 1)) (l.length - 1) ((l.set (t4 l (l.length - 1) - 1) (l.getD (t41 l (l.getD (t4 l (l.length - 1) - 1) 0) (l.length - 1)) 0)).set (t41 l (l.getD (t4 l (l.length - 1) - 1) 0) (l.length - 1)) (l.getD (t4 l (l.length - 1) - 1) 0))) := by unfold nx; rw [if_neg z]
    obtain ⟨i, hi⟩ : ∃ i, t4 l (l.length - 1) = i + 1 := ⟨t4 l (l.length - 1) - 1, by omega⟩
    rw [hi] at hnx tl ⊢
    rw [show i + 1 - 1 = i by omega] at hnx
    obtain ⟨a1, a2⟩ := h i (by omega)
    rw [nD_s, if_pos (nI_pos' (by omega)), fm_nm, fm_pred n1, fm_bind]
    have B : fm_T (fw_wh (f_M_turns_L41 μ (nI i)) fw_N (nI (l.length - 1))) (fun r => r = nI (t41 l (l.getD i 0) (l.length - 1)) ∧ t41 l (l.getD i 0) (l.length - 1) < l.length) := by
      refine fm_wh (P := fun m s => s = nI m ∧ i ≤ m ∧ m < l.length ∧ t41 l (l.getD i 0) m = t41 l (l.getD i 0) (l.length - 1)) ?_ (i := l.length - 1) ⟨rfl, by omega, by omega, rfl⟩ (by omega)
      rintro m s ⟨rfl, m1, m2, mt⟩
      unfold f_M_turns_L41
      obtain ⟨b1, b2⟩ := h m (by omega)
      rw [fm_rd (by omega) (by omega), fm_bs, fm_rd (by omega) (by omega), fm_bs, a1, b1]
      by_cases c : l.getD i 0 ≤ l.getD m 0
      · rw [if_pos (nI_le c (by omega)), fm_some, fm_Kr]
        have : t41 l (l.getD i 0) m = m := by
          cases m with
          | zero => rfl
          | succ m => show (if _ then m + 1 else _) = m + 1; rw [if_pos c]
        rw [← mt, this]
        exact ⟨rfl, m2⟩
      · have ne : m ≠ i := fun y => c (by rw [y]; exact Nat.le_refl _)
        obtain ⟨k, rfl⟩ : ∃ k, m = k + 1 := ⟨m - 1, by omega⟩
        rw [if_neg (nI_ge (by omega) (by omega)), fm_nm, fm_some, fm_Kl, nD_m, nD_s]
        refine ⟨k, by omega, rfl, by omega, by omega, ?_⟩
        rw [← mt]
        show _ = (if _ then k + 1 else _)
        rw [if_neg c]
    refine B.mono ?_
    rintro r ⟨rfl, kb⟩
    generalize t41 l (l.getD i 0) (l.length - 1) = k at kb hnx ⊢
    obtain ⟨b1, b2⟩ := h k (by omega)
    rw [fm_rd (by omega) (by omega), fm_bs, fm_rd (by omega) (by omega), fm_bs, fm_si (by omega) (by omega), fm_bs, fm_si (by omega) (by omega), fm_bs, fm_nm, nI_1, fm_nm, a1, b1, fm_bind]
    have y1 : yS (fw_wr (fw_wr μ 18 i (nI (l.getD k 0))) 18 k (nI (l.getD i 0))) ((l.set i (l.getD k 0)).set k (l.getD i 0)) := (h.set b2).set a2
    have le1 : ((l.set i (l.getD k 0)).set k (l.getD i 0)).length = l.length := by rw [List.length_set, List.length_set]
    generalize ((l.set i (l.getD k 0)).set k (l.getD i 0)) = l1 at y1 le1 hnx
    generalize hμ1 : fw_wr (fw_wr μ 18 i (nI (l.getD k 0))) 18 k (nI (l.getD i 0)) = μ1 at y1
    have F1 : fm_F [18] μ μ1 := by rw [← hμ1]; exact (fm_F.rf.wr).wr
    generalize hr : trv 6 (i + 1) (l.length - 1) l1 = r at hnx
    refine fm_wh (P := fun m s => ∃ (f a b : Nat) (l2 : List Nat), m = f ∧ b < 6 + a ∧ b ≤ a + 2 * f ∧ a ≤ 6 ∧ b < l.length ∧ s.1 = nI a ∧ s.2.1 = nI b ∧ fm_F [18] μ s.2.2 ∧ l2.length = l.length ∧ yS s.2.2 l2 ∧ trv f a b l2 = r) ?_ (i := 6) ⟨6, i + 1, l.length - 1, l1, rfl, by omega, by omega, by omega, by omega, rfl, rfl, F1, le1, y1, hr⟩ (by omega)
    rintro m ⟨x, y, ν⟩ ⟨f, a, b, l2, rfl, c1, c2, c3, c4, e1, e2, F, le2, y2, tr⟩
    simp only at e1 e2 F y2
    subst e1 e2
    unfold f_M_turns_L100
    try dsimp only
    by_cases ba : b ≤ a
    · rw [if_pos (nI_le ba (by omega)), fm_some, fm_Kr, fm_some]
      have : trv m a b l2 = l2 := by
        cases m with
        | zero => rfl
        | succ m => show (if b ≤ a then l2 else _) = l2; rw [if_pos ba]
      rw [this] at tr
      refine ⟨F, Or.inr ⟨rfl, l2, by rw [hnx, tr], le2, y2⟩⟩
    · obtain ⟨m', rfl⟩ : ∃ m', m = m' + 1 := ⟨m - 1, by omega⟩
      obtain ⟨p1, p2⟩ := y2 a (by omega)
      obtain ⟨q1, q2⟩ := y2 b (by omega)
      rw [if_neg (nI_ge (by omega) (by omega)), fm_rd (by omega) (by omega), fm_bs, fm_rd (by omega) (by omega), fm_bs, fm_si (by omega) (by omega), fm_bs, fm_si (by omega) (by omega), fm_bs, fm_nm, fm_nm, fm_some, fm_Kl, p1, q1, nD_m]
      have tr2 : trv m' (a + 1) (b - 1) ((l2.set a (l2.getD b 0)).set b (l2.getD a 0)) = r := by
        rw [← tr]
        show _ = (if b ≤ a then l2 else _)
        rw [if_neg ba]
      refine ⟨m', by omega, m', a + 1, b - 1, _, rfl, by omega, by omega, by omega, by omega, nI_1 a, ?_, (F.wr).wr, ?_, (y2.set q2).set p2, tr2⟩
      · show nD b = nI (b - 1)
        obtain ⟨b', rfl⟩ : ∃ b', b = b' + 1 := ⟨b - 1, by omega⟩
        rw [nD_s]
        rfl
      · rw [List.length_set, List.length_set]; exact le2
/-! all the orders of at most six pulls -/
def chn (N : Nat) : Nat → List Nat → List (List Nat)
  | 0, _ => []
  | k + 1, l => l :: (match nx N l with | none => [] | some l2 => chn N k l2)
def ip : List Nat → Nat → Nat
  | [], _ => 0
  | x :: l, k => if x = k then 0 else ip l k + 1
def okp (N : Nat) (l : List Nat) : Bool := decide (l.length = N) && (List.range N).all (fun j => decide (l.getD j 0 < N)) && (List.range N).all (fun k => decide (ip l k < N) && (List.range N).all (fun j => decide (l.getD j 0 = k ↔ j = ip l k)))
theorem chn_6 : (List.range 7).all (fun N => N == 0 || ((chn N 721 (List.range N) == ex N N []) && decide ((ex N N []).length < 721))) = true := by decide +kernel
theorem okp_6 : (List.range 7).all (fun N => N == 0 || (ex N N []).all (okp N)) = true := by decide +kernel
