/-! the picture of the whole heap: cells by number, one memory; what a walk over it is -/
section RFC
/-- kinds of contents: 1 long, 2 reference, 0 all else -/
def rf_kd (t : FieldType) : Nat := match t with
  | .long => 1
  | .object _ => 2
  | .array _ => 2
  | _ => 0
abbrev rf_M : Type := (Nat → Nat → Int32) × (Nat → Nat → Int64) × (Nat → Nat → Option Nat)
abbrev rf_C : Type := (FieldType × Nat) ⊕ Nat
/-- the shape of the picture: how many cells, and what each is -/
abbrev rf_Sh : Type := Nat × (Nat → Option rf_C)
def rf_at (sh : rf_Sh) (k : Nat) : Option rf_C := sh.2 k
def rf_Wf (sh : rf_Sh) : Prop := ∀ k, (sh.2 k).isSome = true ↔ k < sh.1
abbrev rf_L : Type := List (Nat × Value)
abbrev rf_S : Type := rf_L × List Value × rf_M
def rf_cv (ad : Nat → Nat) (v : Value) : Value := match v with
  | .ref k => .ref (ad k)
  | .int x => .int x
  | .long x => .long x
  | .float x => .float x
  | .double x => .double x
  | .null => .null
  | .retAddr x => .retAddr x
theorem rf_cat (ad : Nat → Nat) (v : Value) : (rf_cv ad v).category = v.category := by cases v <;> rfl
def rf_lc (ad : Nat → Nat) (lv : rf_L) : rf_L := lv.map (fun q => (q.1, rf_cv ad q.2))
def rf_rd (M : rf_M) (t : FieldType) (k i : Nat) : Value := match rf_kd t with
  | 1 => .long (M.2.1 k i)
  | 2 => va_rf (M.2.2 k i)
  | _ => .int (M.1 k i)
def rf_row (ad : Nat → Nat) (M : rf_M) (k : Nat) (t : FieldType) : (Nat → Int32) ⊕ (Nat → Int64) ⊕ (Nat → UInt32) ⊕ (Nat → UInt64) ⊕ (Nat → Option Nat) := match rf_kd t with
  | 1 => .inr (.inl (M.2.1 k))
  | 2 => .inr (.inr (.inr (.inr (fun i => (M.2.2 k i).map ad))))
  | _ => .inl (M.1 k)
def rf_cell (ad : Nat → Nat) (cad : Nat → ClassId) (M : rf_M) (k : Nat) (c : rf_C) : va_E := match c with
  | .inl q => .inl (cad k, q.2, rf_row ad M k q.1)
  | .inr ci => .inr (ci, (List.range (rf_fn ci)).map (fun i => rf_cv ad (rf_rd M (rf_ft ci i) k i)))
def rf_ws (ad : Nat → Nat) (cad : Nat → ClassId) (sh : rf_Sh) (M : rf_M) : va_W := (List.range sh.1).map (fun k => (ad k, rf_cell ad cad M k ((sh.2 k).getD (.inr 0))))
theorem rf_ws_lt {ad : Nat → Nat} {cad : Nat → ClassId} {sh : rf_Sh} {M : rf_M} {k : Nat} (h : k < sh.1) : (rf_ws ad cad sh M)[k]? = some (ad k, rf_cell ad cad M k ((sh.2 k).getD (.inr 0))) := by
  unfold rf_ws
  rw [List.getElem?_map, List.getElem?_range h]
  rfl
theorem rf_at_lt {sh : rf_Sh} (hw : rf_Wf sh) {k : Nat} {c : rf_C} (h : rf_at sh k = some c) : k < sh.1 := (hw k).mp (by unfold rf_at at h; rw [h]; rfl)
theorem rf_ws_at {ad : Nat → Nat} {cad : Nat → ClassId} {sh : rf_Sh} {M : rf_M} {k : Nat} {c : rf_C} (hw : rf_Wf sh) (h : rf_at sh k = some c) : (rf_ws ad cad sh M)[k]? = some (ad k, rf_cell ad cad M k c) := by
  rw [rf_ws_lt (rf_at_lt hw h)]
  unfold rf_at at h
  rw [h]
  rfl
theorem rf_ws_len {ad : Nat → Nat} {cad : Nat → ClassId} {sh : rf_Sh} {M : rf_M} : (rf_ws ad cad sh M).length = sh.1 := by simp [rf_ws]
theorem rf_ws_of {ad : Nat → Nat} {cad : Nat → ClassId} {sh : rf_Sh} {M : rf_M} {k : Nat} {q : Nat × va_E} (h : (rf_ws ad cad sh M)[k]? = some q) : k < sh.1 ∧ q = (ad k, rf_cell ad cad M k ((sh.2 k).getD (.inr 0))) := by
  by_cases hk : k < sh.1
  · rw [rf_ws_lt hk] at h
    exact ⟨hk, (Option.some.inj h).symm⟩
  · rw [List.getElem?_eq_none (by rw [rf_ws_len]; omega)] at h
    cases h
def rf_uI (M : rf_M) (k i : Nat) (x : Int32) : rf_M := (fun a b => if a = k ∧ b = i then x else M.1 a b, M.2.1, M.2.2)
def rf_uL (M : rf_M) (k i : Nat) (x : Int64) : rf_M := (M.1, fun a b => if a = k ∧ b = i then x else M.2.1 a b, M.2.2)
def rf_uR (M : rf_M) (k i : Nat) (x : Option Nat) : rf_M := (M.1, M.2.1, fun a b => if a = k ∧ b = i then x else M.2.2 a b)
/-- two memories that differ in the cell k alone -/
theorem rf_ws_set {ad : Nat → Nat} {cad : Nat → ClassId} {sh : rf_Sh} {M M' : rf_M} {k : Nat} {c : rf_C} {e : va_E} (hw : rf_Wf sh) (h : rf_at sh k = some c) (he : rf_cell ad cad M' k c = e) (hne : ∀ (j : Nat) (d : rf_C), j ≠ k → rf_cell ad cad M' j d = rf_cell ad cad M j d) : (rf_ws ad cad sh M).set k (ad k, e) = rf_ws ad cad sh M' := by
  apply List.ext_getElem?
  intro j
  rw [List.getElem?_set]
  by_cases hjk : k = j
  · subst hjk
    have hk : k < sh.1 := rf_at_lt hw h
    rw [if_pos rfl, if_pos (by rw [rf_ws_len]; exact hk), rf_ws_at hw h, he]
  · rw [if_neg hjk]
    by_cases hj : j < sh.1
    · rw [rf_ws_lt hj, rf_ws_lt hj, hne _ _ (Ne.symm hjk)]
    · rw [List.getElem?_eq_none (by rw [rf_ws_len]; omega), List.getElem?_eq_none (by rw [rf_ws_len]; omega)]
theorem rf_rd_ne {M M' : rf_M} {j k : Nat} (hj : j ≠ k) (h1 : ∀ a b, a ≠ k → M'.1 a b = M.1 a b) (h2 : ∀ a b, a ≠ k → M'.2.1 a b = M.2.1 a b) (h3 : ∀ a b, a ≠ k → M'.2.2 a b = M.2.2 a b) (t : FieldType) (i : Nat) : rf_rd M' t j i = rf_rd M t j i := by
  unfold rf_rd
  split
  · rw [h2 _ _ hj]
  · rw [h3 _ _ hj]
  · rw [h1 _ _ hj]
theorem rf_cell_ne {ad : Nat → Nat} {cad : Nat → ClassId} {M M' : rf_M} {k : Nat} (h1 : ∀ a b, a ≠ k → M'.1 a b = M.1 a b) (h2 : ∀ a b, a ≠ k → M'.2.1 a b = M.2.1 a b) (h3 : ∀ a b, a ≠ k → M'.2.2 a b = M.2.2 a b) : ∀ (j : Nat) (d : rf_C), j ≠ k → rf_cell ad cad M' j d = rf_cell ad cad M j d := by
  intro j d hj
  cases d with
  | inl q =>
    have e1 : M'.1 j = M.1 j := funext fun b => h1 _ _ hj
    have e2 : M'.2.1 j = M.2.1 j := funext fun b => h2 _ _ hj
    have e3 : M'.2.2 j = M.2.2 j := funext fun b => h3 _ _ hj
    simp only [rf_cell, rf_row, e1, e2, e3]
  | inr ci =>
    simp only [rf_cell]
    congr 2
    apply List.map_congr_left
    intro i _
    rw [rf_rd_ne hj h1 h2 h3]
theorem rf_uI_ne {ad : Nat → Nat} {cad : Nat → ClassId} {M : rf_M} {k i : Nat} {x : Int32} : ∀ (j : Nat) (d : rf_C), j ≠ k → rf_cell ad cad (rf_uI M k i x) j d = rf_cell ad cad M j d := rf_cell_ne (fun a b h => by simp [rf_uI, h]) (fun _ _ _ => rfl) (fun _ _ _ => rfl)
theorem rf_uL_ne {ad : Nat → Nat} {cad : Nat → ClassId} {M : rf_M} {k i : Nat} {x : Int64} : ∀ (j : Nat) (d : rf_C), j ≠ k → rf_cell ad cad (rf_uL M k i x) j d = rf_cell ad cad M j d := rf_cell_ne (fun _ _ _ => rfl) (fun a b h => by simp [rf_uL, h]) (fun _ _ _ => rfl)
theorem rf_uR_ne {ad : Nat → Nat} {cad : Nat → ClassId} {M : rf_M} {k i : Nat} {x : Option Nat} : ∀ (j : Nat) (d : rf_C), j ≠ k → rf_cell ad cad (rf_uR M k i x) j d = rf_cell ad cad M j d := rf_cell_ne (fun _ _ _ => rfl) (fun _ _ _ => rfl) (fun a b h => by simp [rf_uR, h])
/-- a field is written: its cell -/
theorem rf_cell_put {ad : Nat → Nat} {cad : Nat → ClassId} {M M' : rf_M} {k ci f : Nat} {v : Value} (hv : rf_cv ad (rf_rd M' (rf_ft ci f) k f) = v) (ho : ∀ i, i ≠ f → rf_rd M' (rf_ft ci i) k i = rf_rd M (rf_ft ci i) k i) :
    rf_cell ad cad M' k (.inr ci) = .inr (ci, ((List.range (rf_fn ci)).map (fun i => rf_cv ad (rf_rd M (rf_ft ci i) k i))).set f v) := by
  simp only [rf_cell]
  congr 2
  apply List.ext_getElem?
  intro j
  rw [List.getElem?_set, List.getElem?_map]
  by_cases hj : j < rf_fn ci
  · by_cases hjf : f = j
    · subst hjf
      rw [if_pos rfl, if_pos (by simpa using hj), List.getElem?_range hj, ← hv]
      rfl
    · rw [if_neg hjf, List.getElem?_map, List.getElem?_range hj]
      simp only [Option.map_some, ho j (Ne.symm hjf)]
  · rw [List.getElem?_eq_none (by simpa using Nat.le_of_not_lt hj)]
    by_cases hjf : f = j
    · subst hjf
      rw [if_pos rfl, if_neg (by simpa using hj)]
      rfl
    · rw [if_neg hjf, List.getElem?_eq_none (by simpa using Nat.le_of_not_lt hj)]
      rfl
theorem rf_rd_uI {M : rf_M} {k i : Nat} {x : Int32} {t : FieldType} (h : rf_kd t = 0) : rf_rd (rf_uI M k i x) t k i = .int x := by simp [rf_rd, h, rf_uI]
theorem rf_rd_uI_ne {M : rf_M} {k i j : Nat} {x : Int32} {t : FieldType} (h : j ≠ i) : rf_rd (rf_uI M k i x) t k j = rf_rd M t k j := by simp [rf_rd, rf_uI, h]
theorem rf_rd_uL {M : rf_M} {k i : Nat} {x : Int64} {t : FieldType} (h : rf_kd t = 1) : rf_rd (rf_uL M k i x) t k i = .long x := by simp [rf_rd, h, rf_uL]
theorem rf_rd_uL_ne {M : rf_M} {k i j : Nat} {x : Int64} {t : FieldType} (h : j ≠ i) : rf_rd (rf_uL M k i x) t k j = rf_rd M t k j := by simp [rf_rd, rf_uL, h]
theorem rf_rd_uR {M : rf_M} {k i : Nat} {x : Option Nat} {t : FieldType} (h : rf_kd t = 2) : rf_rd (rf_uR M k i x) t k i = va_rf x := by simp [rf_rd, h, rf_uR]
theorem rf_rd_uR_ne {M : rf_M} {k i j : Nat} {x : Option Nat} {t : FieldType} (h : j ≠ i) : rf_rd (rf_uR M k i x) t k j = rf_rd M t k j := by simp [rf_rd, rf_uR, h]
-- locals
def rf_get (lv : rf_L) (i : Nat) : Option Value := (lv.find? (fun q => q.1 == i)).map (fun q => q.2)
def rf_put1 (lv : rf_L) (i : Nat) (v : Value) : rf_L := (i, v) :: lv.filter (fun q => !(q.1 == i) && !(q.1 + 1 == i && q.2.category == 2))
def rf_put2 (lv : rf_L) (i : Nat) (v : Value) : rf_L := (i, v) :: lv.filter (fun q => !(q.1 == i) && (!(q.1 == i + 1) && !(q.1 + 1 == i && q.2.category == 2)))
theorem rf_get_has {ad : Nat → Nat} {ls : Array Slot} {nL : Nat} {lv : rf_L} {i : Nat} {v : Value} (h : lv_has ls nL (rf_lc ad lv)) (hg : rf_get lv i = some v) : ls[i]? = some (.val (rf_cv ad v)) := by
  unfold rf_get at hg
  cases hf : lv.find? (fun q => q.1 == i) with
  | none => rw [hf] at hg; cases hg
  | some q =>
    rw [hf] at hg
    obtain rfl := Option.some.inj hg
    have h1 := List.find?_some hf
    have h2 := List.mem_of_find?_eq_some hf
    have h3 : q.1 = i := by simpa using h1
    have h4 := h.2.2 (q.1, rf_cv ad q.2) (List.mem_map.mpr ⟨q, h2, rfl⟩)
    rw [← h3]
    exact h4
theorem rf_filter_map (ad : Nat → Nat) (lv : rf_L) (P : Nat → Nat → Bool) : (rf_lc ad lv).filter (fun q => P q.1 q.2.category) = rf_lc ad (lv.filter (fun q => P q.1 q.2.category)) := by
  induction lv with
  | nil => rfl
  | cons q l ih =>
    simp only [rf_lc, List.map_cons, List.filter_cons, rf_cat] at ih ⊢
    split
    · rw [List.map_cons, ih]
    · exact ih
theorem rf_lc_put1 (ad : Nat → Nat) (lv : rf_L) (i : Nat) (v : Value) : (i, rf_cv ad v) :: (rf_lc ad lv).filter (fun q => !(q.1 == i) && !(q.1 + 1 == i && q.2.category == 2)) = rf_lc ad (rf_put1 lv i v) := by
  rw [rf_filter_map ad lv (fun a b => !(a == i) && !(a + 1 == i && b == 2))]
  rfl
theorem rf_lc_put2 (ad : Nat → Nat) (lv : rf_L) (i : Nat) (v : Value) : (i, rf_cv ad v) :: (rf_lc ad lv).filter (fun q => !(q.1 == i) && (!(q.1 == i + 1) && !(q.1 + 1 == i && q.2.category == 2))) = rf_lc ad (rf_put2 lv i v) := by
  rw [rf_filter_map ad lv (fun a b => !(a == i) && (!(a == i + 1) && !(a + 1 == i && b == 2)))]
  rfl
theorem rf_lc_has {ad : Nat → Nat} {ls : Array Slot} {nL : Nat} {lv lv' : rf_L} (h : lv_has ls nL (rf_lc ad lv)) (hs : ∀ q ∈ lv', q ∈ lv) : lv_has ls nL (rf_lc ad lv') := by
  refine ⟨h.1, h.2.1, fun q hq => ?_⟩
  obtain ⟨x, hx, rfl⟩ := List.mem_map.mp hq
  exact h.2.2 _ (List.mem_map.mpr ⟨x, hs x hx, rfl⟩)
end RFC
