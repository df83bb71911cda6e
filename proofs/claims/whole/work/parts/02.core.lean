/-! THE PURE MACHINE'S STATE: ints by cell and place, longs by cell and place; the shape of the cells never changes behind the constructors -/
abbrev fw_M : Type := (Nat → Nat → Int32) × (Nat → Nat → Int64)
/-- a cell's shape: .inl (its class, its fields: none an int, some r the cell r); .inr (kind 0 int, 1 boolean, 2 long, 3 Line, 4 Sheet; its length; of references their cells) -/
abbrev fw_K : Type := (Nat × List (Option Nat)) ⊕ (Nat × Nat × List Nat)
def fw_fe (ad : Nat → Nat) (μ : fw_M) (k j : Nat) (o : Option Nat) : Value := match o with
  | none => .int (μ.1 k j)
  | some r => .ref (ad r)
def fw_ar (ad : Nat → Nat) (μ : fw_M) (k kind n : Nat) (rs : List Nat) : vp_A := match kind with
  | 0 => (n, .inl (μ.1 k))
  | 1 => (n, .inl (μ.1 k))
  | 2 => (n, .inr (.inl (μ.2 k)))
  | _ => (n, .inr (.inr (.inr (.inr (fun i => (rs[i]?).map ad)))))
def fw_ce (ad : Nat → Nat) (dA : Nat → ClassId) (μ : fw_M) (k : Nat) (s : fw_K) : va_E := match s with
  | .inl o => .inr (o.1, o.2.mapIdx (fw_fe ad μ k))
  | .inr a => .inl (dA a.1, fw_ar ad μ k a.1 a.2.1 a.2.2)
def fw_w (sh : List fw_K) (ad : Nat → Nat) (dA : Nat → ClassId) (μ : fw_M) : va_W := sh.mapIdx (fun k s => (ad k, fw_ce ad dA μ k s))
theorem fw_wget {sh : List fw_K} {ad : Nat → Nat} {dA : Nat → ClassId} {μ : fw_M} {k : Nat} {s : fw_K} (h : sh[k]? = some s) : (fw_w sh ad dA μ)[k]? = some (ad k, fw_ce ad dA μ k s) := by
  simp [fw_w, List.getElem?_mapIdx, h]
theorem fw_wset {sh : List fw_K} {ad : Nat → Nat} {dA : Nat → ClassId} {μ μ1 : fw_M} {k : Nat} {s : fw_K} (h : sh[k]? = some s) (hμ : ∀ (j : Nat) (t : fw_K), j ≠ k → fw_ce ad dA μ1 j t = fw_ce ad dA μ j t) : (fw_w sh ad dA μ).set k (ad k, fw_ce ad dA μ1 k s) = fw_w sh ad dA μ1 := by
  apply List.ext_getElem?
  intro j
  rw [List.getElem?_set]
  by_cases hj : k = j
  · subst hj
    have hl : k < sh.length := (List.getElem?_eq_some_iff.mp h).1
    simp [fw_wget h, fw_w, hl]
    exact (List.getElem?_eq_some_iff.mp h).2 ▸ rfl
  · simp only [hj, if_false]
    simp only [fw_w, List.getElem?_mapIdx]
    cases hs : sh[j]? with
    | none => rfl
    | some t => simp [hμ j t (fun e => hj e.symm)]
def fw_wr (μ : fw_M) (k j : Nat) (v : Int32) : fw_M := (fun a => if a = k then upd (μ.1 k) j v else μ.1 a, μ.2)
def fw_wl (μ : fw_M) (k j : Nat) (v : Int64) : fw_M := (μ.1, fun a => if a = k then vp_updL (μ.2 k) j v else μ.2 a)
def fw_wc (μ : fw_M) (k : Nat) (f : Nat → Int32) : fw_M := (fun a => if a = k then f else μ.1 a, μ.2)
def fw_wd (μ : fw_M) (k : Nat) (f : Nat → Int64) : fw_M := (μ.1, fun a => if a = k then f else μ.2 a)
theorem fw_ce_wc {ad : Nat → Nat} {dA : Nat → ClassId} {μ : fw_M} {k : Nat} {f : Nat → Int32} (j : Nat) (t : fw_K) (h : j ≠ k) : fw_ce ad dA (fw_wc μ k f) j t = fw_ce ad dA μ j t := by
  cases t with
  | inl o =>
    simp only [fw_ce]
    congr 2
    apply List.ext_getElem?
    intro i
    simp only [List.getElem?_mapIdx]
    congr 1
    funext o
    cases o <;> simp [fw_fe, fw_wc, h]
  | inr a =>
    simp only [fw_ce, fw_ar, fw_wc]
    split <;> simp [h]
theorem fw_ce_wd {ad : Nat → Nat} {dA : Nat → ClassId} {μ : fw_M} {k : Nat} {f : Nat → Int64} (j : Nat) (t : fw_K) (h : j ≠ k) : fw_ce ad dA (fw_wd μ k f) j t = fw_ce ad dA μ j t := by
  cases t with
  | inl o => rfl
  | inr a =>
    simp only [fw_ce, fw_ar, fw_wd]
    split <;> simp [h]
theorem fw_wr_wc (μ : fw_M) (k j : Nat) (v : Int32) : fw_wr μ k j v = fw_wc μ k (upd (μ.1 k) j v) := rfl
theorem fw_wl_wd (μ : fw_M) (k j : Nat) (v : Int64) : fw_wl μ k j v = fw_wd μ k (vp_updL (μ.2 k) j v) := rfl
/-- a value of the pure machine, its cells by their addresses -/
def fw_v (ad : Nat → Nat) : Value → Value
  | .ref k => .ref (ad k)
  | v => v
theorem fw_vcat (ad : Nat → Nat) (v : Value) : (fw_v ad v).category = v.category := by cases v <;> rfl
def fw_g (ad : Nat → Nat) (q : Nat × Value) : Nat × Value := (q.1, fw_v ad q.2)
theorem fw_fil (ad : Nat → Nat) (i : Nat) (l : List (Nat × Value)) : (l.map (fw_g ad)).filter (fun q => !(q.1 == i) && !(q.1 + 1 == i && q.2.category == 2)) = (l.filter (fun q => !(q.1 == i) && !(q.1 + 1 == i && q.2.category == 2))).map (fw_g ad) := by
  rw [List.filter_map]
  congr 1
  apply List.filter_congr
  intro q _
  simp [fw_g, fw_vcat]
theorem fw_fil2 (ad : Nat → Nat) (i : Nat) (l : List (Nat × Value)) : (l.map (fw_g ad)).filter (fun q => !(q.1 == i) && (!(q.1 == i + 1) && !(q.1 + 1 == i && q.2.category == 2))) = (l.filter (fun q => !(q.1 == i) && (!(q.1 == i + 1) && !(q.1 + 1 == i && q.2.category == 2)))).map (fw_g ad) := by
  rw [List.filter_map]
  congr 1
  apply List.filter_congr
  intro q _
  simp [fw_g, fw_vcat]
theorem fw_lat {ls : Array Slot} {nL : Nat} {ad : Nat → Nat} {l : List (Nat × Value)} (h : lv_has ls nL (l.map (fw_g ad))) (k : Nat) {i : Nat} {v : Value} (hk : l[k]? = some (i, v)) : ls[i]? = some (.val (fw_v ad v)) := lv_at h k (by rw [List.getElem?_map, hk]; rfl)
theorem fw_largs (ad : Nat → Nat) (vs : List Value) : ∀ i, lv_args i (vs.map (fw_v ad)) = (lv_args i vs).map (fw_g ad) := by
  induction vs with
  | nil => intro i; rfl
  | cons v vs ih =>
    intro i
    simp only [List.map_cons, lv_args, fw_vcat, ih]
    rfl
/-- partial pieces -/
def fw_rd (n : Nat) (f : Nat → Int32) (i : Int32) : Option Int32 := if i < 0 ∨ n ≤ i.toNatClampNeg then none else some (f i.toNatClampNeg)
def fw_rl (n : Nat) (f : Nat → Int64) (i : Int32) : Option Int64 := if i < 0 ∨ n ≤ i.toNatClampNeg then none else some (f i.toNatClampNeg)
def fw_rq (n : Nat) (rs : List Nat) (i : Int32) : Option Nat := if i < 0 ∨ n ≤ i.toNatClampNeg then none else rs[i.toNatClampNeg]?
def fw_si (n : Nat) (μ : fw_M) (k : Nat) (i v : Int32) : Option fw_M := if i < 0 ∨ n ≤ i.toNatClampNeg then none else some (fw_wr μ k i.toNatClampNeg v)
def fw_sz (n : Nat) (μ : fw_M) (k : Nat) (i v : Int32) : Option fw_M := if i < 0 ∨ n ≤ i.toNatClampNeg then none else if v = 0 ∨ v = 1 then some (fw_wr μ k i.toNatClampNeg v) else none
def fw_sl (n : Nat) (μ : fw_M) (k : Nat) (i : Int32) (v : Int64) : Option fw_M := if i < 0 ∨ n ≤ i.toNatClampNeg then none else some (fw_wl μ k i.toNatClampNeg v)
def fw_cp (n0 n1 : Nat) (μ : fw_M) (k0 : Nat) (sp : Int32) (k1 : Nat) (dp n : Int32) : Option fw_M := if sp < 0 ∨ dp < 0 ∨ n < 0 ∨ n0 < sp.toNatClampNeg + n.toNatClampNeg ∨ n1 < dp.toNatClampNeg + n.toNatClampNeg then none else some (fw_wc μ k1 (va_cpy (μ.1 k0) (μ.1 k1) sp.toNatClampNeg dp.toNatClampNeg n.toNatClampNeg))
def fw_cl2 (n0 n1 : Nat) (μ : fw_M) (k0 : Nat) (sp : Int32) (k1 : Nat) (dp n : Int32) : Option fw_M := if sp < 0 ∨ dp < 0 ∨ n < 0 ∨ n0 < sp.toNatClampNeg + n.toNatClampNeg ∨ n1 < dp.toNatClampNeg + n.toNatClampNeg then none else some (fw_wd μ k1 (va_cpy (μ.2 k0) (μ.2 k1) sp.toNatClampNeg dp.toNatClampNeg n.toNatClampNeg))
def fw_dv (x y : Int32) : Option Int32 := if y = 0 then none else some (x / y)
def fw_rm2 (x y : Int32) : Option Int32 := if y = 0 then none else some (x - x / y * y)
def fw_ld (x y : Int64) : Option Int64 := if y = 0 then none else some (x / y)
def fw_lr (x y : Int64) : Option Int64 := if y = 0 then none else some (x - x / y * y)
def fw_bz (v : Int32) : Option Int32 := if v = 0 ∨ v = 1 then some v else none
def fw_nm {α β : Type} (a : α) (K : α → β) : β := K a
def fw_wh {S E : Type} (body : S → Option (S ⊕ E)) : Nat → S → Option E
  | 0, _ => none
  | n + 1, s => match body s with
    | none => none
    | some (.inl s1) => fw_wh body n s1
    | some (.inr e) => some e
def fw_N : Nat := 100000000
/-- taking the pure terms apart -/
theorem fw_be {α β : Type} {X : Option α} {K : α → Option β} {r : β} (h : X.bind K = some r) : ∃ v, X = some v ∧ K v = some r := by
  cases X with
  | none => cases h
  | some v => exact ⟨v, rfl, h⟩
theorem fw_ne {α β : Type} {a : α} {K : α → β} {r : β} (h : fw_nm a K = r) : ∃ x, x = a ∧ K x = r := ⟨a, rfl, h⟩
theorem fw_it {β : Type} {c : Prop} [Decidable c] {a b r : β} (hc : c) (h : (if c then a else b) = r) : a = r := by rw [if_pos hc] at h; exact h
theorem fw_if {β : Type} {c : Prop} [Decidable c] {a b r : β} (hc : ¬ c) (h : (if c then a else b) = r) : b = r := by rw [if_neg hc] at h; exact h
theorem fw_gu {β : Type} {c : Prop} [Decidable c] {a : Option β} {r : β} (h : (if c then a else none) = some r) : c ∧ a = some r := by
  by_cases hc : c
  · rw [if_pos hc] at h; exact ⟨hc, h⟩
  · rw [if_neg hc] at h; cases h
theorem fw_we {S E : Type} {body : S → Option (S ⊕ E)} {e : E} (P : S → Prop) (step : ∀ (s : S) (x : S ⊕ E), body s = some x → (∀ s1, x = .inl s1 → P s1) → (∀ e1, x = .inr e1 → e1 = e) → P s) : ∀ (n : Nat) (s : S), fw_wh body n s = some e → P s := by
  intro n
  induction n with
  | zero => intro s h; cases h
  | succ n ih =>
    intro s h
    rw [fw_wh] at h
    cases hb : body s with
    | none => rw [hb] at h; cases h
    | some x =>
      rw [hb] at h
      cases x with
      | inl s1 => exact step s _ hb (fun s2 e2 => by cases e2; exact ih s1 h) (fun _ e2 => by cases e2)
      | inr e1 => exact step s _ hb (fun _ e2 => by cases e2) (fun e2 h2 => by cases h2; exact Option.some.inj h)
