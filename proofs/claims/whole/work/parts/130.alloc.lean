/-! making cells: new objects and arrays, constructors -/
section RFN
/-- a static of which only this is known: null, or the reference that has this number -/
def rf_Zr (ad : Nat → Nat) (k : Nat) (C n d : String) (A : Nat → Prop) (U : State) (H : Heap) : Prop := va_Z C n d .null A U H ∨ va_Z C n d (.ref (ad k)) A U H
theorem rf_Zr_to {ad ad' : Nat → Nat} {k : Nat} {C n d : String} {A B : Nat → Prop} {s U : State} {H : Heap} {locs : List Loc} (h : rf_Zr ad k C n d A s s.heap) (he : ad' k = ad k) (hS : va_S A s.heap H locs) (hB : ∀ q, B q → A q) (hW : s.vm.Alike U.vm) : rf_Zr ad' k C n d B U H := by
  unfold rf_Zr
  rw [he]
  exact h.imp (fun z => ((z.kept hS.2.1).moved hW).narrow hB) (fun z => ((z.kept hS.2.1).moved hW).narrow hB)
/-- what constructors need beside -/
def rf_AO (ad : Nat → Nat) (A : Nat → Prop) (U : State) (H : Heap) : Prop := va_AO "GreatArc$Big" U ∧ va_AO "GreatArcModel$Rule" U ∧ rf_Zr ad 3000002 "java/lang/Throwable" "UNASSIGNED_STACK" "[Ljava/lang/StackTraceElement;" A U H ∧ rf_Zr ad 3000003 "java/lang/Throwable" "SUPPRESSED_SENTINEL" "Ljava/util/List;" A U H
theorem rf_AO_to {ad ad' : Nat → Nat} {A B : Nat → Prop} {s U : State} {H : Heap} {locs : List Loc} (h : rf_AO ad A s s.heap) (he : ∀ k, 1000000 ≤ k → ad' k = ad k) (hS : va_S A s.heap H locs) (hB : ∀ q, B q → A q) (hW : s.vm.Alike U.vm) : rf_AO ad' B U H := ⟨h.1.moved hW, h.2.1.moved hW, rf_Zr_to h.2.2.1 (he _ (by decide)) hS hB hW, rf_Zr_to h.2.2.2 (he _ (by decide)) hS hB hW⟩
theorem rf_AO_same {ad : Nat → Nat} {A : Nat → Prop} {u U : State} {H : Heap} (h : rf_AO ad A u H) (hW : u.vm.Alike U.vm) : rf_AO ad A U H := ⟨h.1.moved hW, h.2.1.moved hW, h.2.2.1.imp (fun z => z.moved hW) (fun z => z.moved hW), h.2.2.2.imp (fun z => z.moved hW) (fun z => z.moved hW)⟩
/-- the first n cells -/
def rf_shn (n : Nat) : rf_Sh := (n, fun k => bif Nat.ble (k + 1) n then some (rf_s k) else none)
theorem rf_shn_wf (n : Nat) : rf_Wf (rf_shn n) := by
  intro k
  show ((bif Nat.ble (k + 1) n then some (rf_s k) else none : Option rf_C).isSome = true) ↔ k < n
  cases h : Nat.ble (k + 1) n with
  | true => exact ⟨fun _ => Nat.le_of_ble_eq_true h, fun _ => rfl⟩
  | false => exact ⟨fun h2 => by simp at h2, fun h2 => by rw [Nat.ble_eq_true_of_le h2] at h; cases h⟩
theorem rf_shn_at {n k : Nat} (h : k < n) : rf_at (rf_shn n) k = some (rf_s k) := by
  show (bif Nat.ble (k + 1) n then some (rf_s k) else none : Option rf_C) = _
  rw [Nat.ble_eq_true_of_le h]
  rfl
theorem rf_shn_of {n k : Nat} {c : rf_C} (h : rf_at (rf_shn n) k = some c) : k < n ∧ rf_s k = c := by
  have hk : k < n := rf_at_lt (rf_shn_wf n) h
  rw [rf_shn_at hk] at h
  exact ⟨hk, Option.some.inj h⟩
/-- nothing is known of the cells from n on, and nothing refers to them -/
def rf_F (n : Nat) (M : rf_M) : Prop := (∀ k i j, M.2.2 k i = some j → j < n) ∧ ∀ k i, n ≤ k → M.1 k i = 0 ∧ M.2.1 k i = 0 ∧ M.2.2 k i = none
theorem rf_F_succ {n : Nat} {M : rf_M} (h : rf_F n M) : rf_F (n + 1) M := ⟨fun k i j e => Nat.lt_succ_of_lt (h.1 k i j e), fun k i hk => h.2 k i (by omega)⟩
theorem rf_F_uR {n k i j : Nat} {M : rf_M} (h : rf_F n M) (hk : k < n) (hj : j < n) : rf_F n (rf_uR M k i (some j)) := by
  refine ⟨fun a b c e => ?_, fun a b ha => ?_⟩
  · simp only [rf_uR] at e
    split at e
    · obtain rfl := Option.some.inj e; exact hj
    · exact h.1 a b c e
  · have hne : ¬ (a = k ∧ b = i) := fun q => by omega
    simp only [rf_uR, if_neg hne]
    exact h.2 a b ha
theorem rf_F_uI {n k i : Nat} {x : Int32} {M : rf_M} (h : rf_F n M) (hk : k < n) : rf_F n (rf_uI M k i x) := by
  refine ⟨h.1, fun a b ha => ?_⟩
  have hne : ¬ (a = k ∧ b = i) := fun q => by omega
  simp only [rf_uI, if_neg hne]
  exact h.2 a b ha
theorem rf_F_uL {n k i : Nat} {x : Int64} {M : rf_M} (h : rf_F n M) (hk : k < n) : rf_F n (rf_uL M k i x) := by
  refine ⟨h.1, fun a b ha => ?_⟩
  have hne : ¬ (a = k ∧ b = i) := fun q => by omega
  simp only [rf_uL, if_neg hne]
  exact h.2 a b ha
def rf_upK (K : rf_K) (n q : Nat) (cl : ClassId) : rf_K := match K with
  | (p, l, e, R, s, m, args, below, meth, c, D, ad, cad, A, Q) => (p, l, e, R, s, m, args, below, meth, c, D, (fun k => if k = n then q else ad k), (fun k => if k = n then cl else cad k), A, Q)
theorem rf_cell_ad {ad ad' : Nat → Nat} {cad cad' : Nat → ClassId} {M : rf_M} {k : Nat} (c : rf_C) (h : ∀ i j, M.2.2 k i = some j → ad' j = ad j) (hc : cad' k = cad k) : rf_cell ad' cad' M k c = rf_cell ad cad M k c := by
  have h2 : ∀ i, (M.2.2 k i).map ad' = (M.2.2 k i).map ad := by
    intro i
    cases e : M.2.2 k i with
    | none => rfl
    | some j => simp [h i j e]
  cases c with
  | inl q =>
    simp only [rf_cell, rf_row, hc, h2]
  | inr ci =>
    simp only [rf_cell]
    congr 2
    apply List.map_congr_left
    intro i _
    unfold rf_rd
    split
    · rfl
    · have := h2 i
      cases e : M.2.2 k i with
      | none => rfl
      | some j => simp [va_rf, rf_cv, h i j e]
    · rfl
theorem rf_ws_new {ad : Nat → Nat} {cad : Nat → ClassId} {n q : Nat} {cl : ClassId} {M : rf_M} {e : va_E} (hF : rf_F n M) (he : rf_cell (fun k => if k = n then q else ad k) (fun k => if k = n then cl else cad k) M n (rf_s n) = e) : rf_ws ad cad (rf_shn n) M ++ [(q, e)] = rf_ws (fun k => if k = n then q else ad k) (fun k => if k = n then cl else cad k) (rf_shn (n + 1)) M := by
  show (List.range n).map _ ++ _ = (List.range (n + 1)).map _
  rw [List.range_succ, List.map_append]
  congr 1
  · apply List.map_congr_left
    intro k hk
    have hk : k < n := List.mem_range.mp hk
    have h1 : (rf_shn n).2 k = some (rf_s k) := rf_shn_at hk
    have h2 : (rf_shn (n + 1)).2 k = some (rf_s k) := rf_shn_at (Nat.lt_succ_of_lt hk)
    rw [h1, h2]
    have hne : k ≠ n := by omega
    rw [rf_cell_ad (ad' := fun k => if k = n then q else ad k) (cad' := fun k => if k = n then cl else cad k) (ad := ad) (cad := cad) _ (fun i j hj => if_neg (by have := hF.1 k i j hj; omega)) (if_neg hne)]
    simp only [if_neg hne]
  · have h2 : (rf_shn (n + 1)).2 n = some (rf_s n) := rf_shn_at (Nat.lt_succ_self n)
    simp only [List.map_cons, List.map_nil, h2, if_pos, Option.getD_some]
    rw [he]
/-- no reference to cell n -/
def rf_nr (n : Nat) (v : Value) : Bool := match v with
  | .ref k => !(Nat.beq k n)
  | _ => true
theorem rf_cv_up {ad : Nat → Nat} {n q : Nat} {v : Value} (h : rf_nr n v = true) : rf_cv (fun k => if k = n then q else ad k) v = rf_cv ad v := by
  cases v with
  | ref k =>
    have hk : k ≠ n := by
      intro e
      subst e
      simp [rf_nr] at h
    simp [rf_cv, hk]
  | _ => rfl
theorem rf_lc_up {ad : Nat → Nat} {n q : Nat} {lv : rf_L} (h : lv.all (fun x => rf_nr n x.2) = true) : rf_lc (fun k => if k = n then q else ad k) lv = rf_lc ad lv := by
  unfold rf_lc
  apply List.map_congr_left
  intro x hx
  rw [rf_cv_up (List.all_eq_true.mp h x hx)]
theorem rf_st_up {ad : Nat → Nat} {n q : Nat} {st : List Value} (h : st.all (rf_nr n) = true) : st.map (rf_cv (fun k => if k = n then q else ad k)) = st.map (rf_cv ad) := by
  apply List.map_congr_left
  intro x hx
  rw [rf_cv_up (List.all_eq_true.mp h x hx)]
theorem rf_X_ad {ad ad' : Nat → Nat} {A : Nat → Prop} {U : State} {H : Heap} (h : rf_X ad A U H) (he : ∀ k, 1000000 ≤ k → ad' k = ad k) : rf_X ad' A U H := by
  refine ⟨⟨h.1.1, h.1.2.1, ?_⟩, ?_⟩
  · rw [he 3000001 (by decide)]
    exact h.1.2.2
  · intro i q hq
    rw [he (1000000 + i) (by omega), he (2000000 + i) (by omega)]
    exact h.2 i q hq
variable {o nL d : Nat} {cc : ByteArray} {cells slots pc n : Nat} {K : rf_K} {lv : rf_L} {st : List Value} {M : rf_M}
def rf_KT (K : rf_K) (cl : ClassId) (t : FieldType) : Prop := match K with
  | (_, _, _, _, s, _, _, _, _, _, D, _, _, _, _) => va_K D vwCl [(cl, t)] s
def rf_Kq (K : rf_K) (q : Nat) : Prop := match K with
  | (_, _, _, _, s, _, _, _, _, _, _, _, _, A, _) => A q ∧ s.heap.size ≤ q
def rf_Kao (K : rf_K) (C0 : String) : Prop := match K with
  | (_, _, _, _, s, _, _, _, _, _, _, _, _, _, _) => va_AO C0 s
theorem rf_ctx_up {q : Nat} {cl : ClassId} (C : rf_Ctx o cc nL d (rf_shn n) K) (hn : n < 1000000) (hT : ∀ t N, rf_s n = .inl (t, N) → rf_KT K cl t) (hq : rf_Kq K q) : rf_Ctx o cc nL d (rf_shn (n + 1)) (rf_upK K n q cl) := by
  obtain ⟨p, l, e, R, s, m, args, below, meth, c, D, ad, cad, A, Q⟩ := K
  obtain ⟨hx, hb, hml, hown, hts, hK, hT0, hA, hlk, hXs, hdf, hdl, hwf⟩ := C
  refine ⟨hx, hb, hml, hown, hts, hK, ?_, ?_, hlk, ?_, hdf, hdl, rf_shn_wf _⟩
  · intro k t N hk
    obtain ⟨h1, h2⟩ := rf_shn_of hk
    show va_K D vwCl [((if k = n then cl else cad k), t)] s
    by_cases hkn : k = n
    · rw [if_pos hkn]
      exact hT t N (by rw [← hkn]; exact h2)
    · rw [if_neg hkn]
      exact hT0 k t N (by rw [rf_shn_at (by omega)]; rw [h2])
  · intro x
    constructor
    · intro hx
      rcases (hA x).mp hx with ⟨k, hk, rfl⟩ | h
      · have hk : k < n := hk
        exact Or.inl ⟨k, Nat.lt_succ_of_lt hk, (if_neg (by omega)).symm⟩
      · exact Or.inr h
    · rintro (⟨k, hk, rfl⟩ | h)
      · have hk : k < n + 1 := hk
        show A (if k = n then q else ad k)
        by_cases hkn : k = n
        · rw [if_pos hkn]; exact hq.1
        · rw [if_neg hkn]; exact (hA _).mpr (Or.inl ⟨k, show k < n by omega, rfl⟩)
      · exact (hA x).mpr (Or.inr h)
  · exact rf_X_ad hXs (fun k hk => if_neg (by omega))
def rf_okt (t : FieldType) : Bool := match t with
  | .float => false
  | .double => false
  | _ => true
theorem rf_dv {M : rf_M} {n i : Nat} {t : FieldType} {ad : Nat → Nat} (hF : rf_F n M) (ht : rf_okt t = true) : defaultValue t = rf_cv ad (rf_rd M t n i) := by
  obtain ⟨h1, h2, h3⟩ := hF.2 n i (Nat.le_refl n)
  cases t <;> simp [rf_okt] at ht <;> simp [rf_rd, rf_kd, h1, h2, h3, defaultValue, rf_cv, va_rf]
/-- new -/
theorem rf_new (C : rf_Ctx o cc nL d (rf_shn n) K) (hF : rf_F n M) (hn : n < 1000000) (ci : Nat) (hs : rf_s n = .inr ci) (hci : ci < 15) (hty : (List.range (rf_fn ci)).all (fun j => rf_okt (rf_ft ci j)) = true) (hlv : lv.all (fun x => rf_nr n x.2) = true) (hst : st.all (rf_nr n) = true) {idx : Nat} (h1 : Cond.classLink (rf_own o) idx (rf_R ci) ∈ rf_WS) (h2 : Cond.instantiable (rf_R ci) (rf_fn ci) ∈ rf_WS) (h3 : Cond.initialized (rf_R ci) ∈ rf_WS) (hf : rf_Fit (cells + 1) (slots + rf_fn ci) K) (hd : decode cc pc = .ok (.new idx, 3))
    (k : ∀ (q : Nat) (cl : ClassId), rf_Ctx o cc nL d (rf_shn (n + 1)) (rf_upK K n q cl) → rf_V nL (rf_shn (n + 1)) (rf_upK K n q cl) (cells + 1) (slots + rf_fn ci) (pc + 3) (lv, .ref n :: st, M)) : rf_V nL (rf_shn n) K cells slots pc (lv, st, M) := by
  obtain ⟨p, l, e, R, s, m, args, below, meth, c, D, ad, cad, A, Q⟩ := K
  have C0 := C
  obtain ⟨hx, hb, hml, hown, hts, hK, hT0, hA, hlk, hXs, hdf, hdl, hwf⟩ := C
  intro H locs ls hPw hD hS hl
  refine va_new (ci := ci) (fs := (List.range (rf_fn ci)).map (fun i => rf_cv ad (rf_rd M (rf_ft ci i) n i))) (C := rf_R ci) (T := rf_T ci) (N := rf_fn ci) hx hb hts (rf_wsin ci hci) (rf_ft ci) (rf_tyok ci hci) hown (hts _ h1) (hts _ h2) (hts _ h3) hK hPw hD hS (fun q hq => (hA q).mpr (Or.inr hq)) (rf_cl ci hci) ?_ hf.1 hf.2 hd (fun q H1 g1 g2 g3 => ?_)
  · intro j hj
    have hj' : rf_okt (rf_ft ci j) = true := List.all_eq_true.mp hty j (List.mem_range.mpr hj)
    show _ = List.getD _ _ _
    rw [List.getD_eq_getElem?_getD, List.getElem?_map, List.getElem?_range hj]
    exact rf_dv hF hj'
  · have hlast : (rf_ws ad cad (rf_shn n) M ++ [(q, (.inr (ci, (List.range (rf_fn ci)).map (fun i => rf_cv ad (rf_rd M (rf_ft ci i) n i))) : va_E))])[n]? = some (q, .inr (ci, (List.range (rf_fn ci)).map (fun i => rf_cv ad (rf_rd M (rf_ft ci i) n i)))) := by
      rw [List.getElem?_append_right (by rw [rf_ws_len]; exact Nat.le_refl n), rf_ws_len]
      show [_][n - n]? = _
      rw [Nat.sub_self]
      rfl
    have hAq : A q := g2.2 n _ hlast
    have hqn : s.heap.size ≤ q := by
      rcases (hA q).mp hAq with ⟨k0, hk0, hqk⟩ | h
      · exfalso
        have h4 := g2.1 k0 n (ad k0, rf_cell ad cad M k0 (((rf_shn n).2 k0).getD (.inr 0))) _ (by rw [List.getElem?_append_left (by rw [rf_ws_len]; exact hk0)]; exact rf_ws_lt hk0) hlast hqk.symm
        have hk0 : k0 < n := hk0
        omega
      · exact h
    have C1 := rf_ctx_up (cl := cad n) (q := q) C0 hn (fun t N h => by rw [hs] at h; cases h) ⟨hAq, hqn⟩
    have hk := k q (cad n) C1
    have e1 : rf_ws ad cad (rf_shn n) M ++ [(q, (.inr (ci, (List.range (rf_fn ci)).map (fun i => rf_cv ad (rf_rd M (rf_ft ci i) n i))) : va_E))] = rf_ws (fun k => if k = n then q else ad k) (fun k => if k = n then cad n else cad k) (rf_shn (n + 1)) M := by
      refine rf_ws_new hF ?_
      rw [rf_cell_ad (ad' := fun k => if k = n then q else ad k) (cad' := fun k => if k = n then cad n else cad k) (ad := ad) (cad := cad) (M := M) (k := n) (rf_s n) (fun i j hj => absurd ((hF.2 n i (Nat.le_refl n)).2.2.symm.trans hj) (by simp)) (if_pos rfl), hs]
      rfl
    rw [e1] at g1 g2
    have h9 := hk H1 locs ls g1 g2 g3 (by rw [rf_lc_up hlv]; exact hl)
    have e2 : ((Value.ref n :: st).map (rf_cv (fun k => if k = n then q else ad k))) = Value.ref q :: st.map (rf_cv ad) := by
      rw [List.map_cons, rf_st_up hst]
      simp [rf_cv]
    rw [e2] at h9
    exact h9
/-- newarray -/
theorem rf_newa (C : rf_Ctx o cc nL d (rf_shn n) K) (hF : rf_F n M) (hn : n < 1000000) (t : FieldType) (N : Nat) (hs : rf_s n = .inl (t, N)) (atype : ArrayType) (hat : newarray.typeOf atype = t) (htk : t = .int ∨ t = .long ∨ t = .boolean ∨ t = .byte) {x : Int32} (hx0 : ¬ x < 0) (hxN : x.toNatClampNeg = N) (hbig : N * componentBytes t ≤ 536870912) (hlv : lv.all (fun x => rf_nr n x.2) = true) (hst : st.all (rf_nr n) = true) (h1 : Cond.arrayClass t ∈ rf_WS) (hf : rf_Fit (cells + 1) (slots + N) K) (hd : decode cc pc = .ok (.newarray atype, 2))
    (k : ∀ (q : Nat) (cl : ClassId), rf_Ctx o cc nL d (rf_shn (n + 1)) (rf_upK K n q cl) → rf_V nL (rf_shn (n + 1)) (rf_upK K n q cl) (cells + 1) (slots + N) (pc + 2) (lv, .ref n :: st, M)) : rf_V nL (rf_shn n) K cells slots pc (lv, .int x :: st, M) := by
  obtain ⟨p, l, e, R, s, m, args, below, meth, c, D, ad, cad, A, Q⟩ := K
  have C0 := C
  obtain ⟨hx, hb, hml, hown, hts, hK, hT0, hA, hlk, hXs, hdf, hdl, hwf⟩ := C
  intro H locs ls hPw hD hS hl
  have z1 : M.1 n = fun _ => 0 := funext fun i => (hF.2 n i (Nat.le_refl n)).1
  have z2 : M.2.1 n = fun _ => 0 := funext fun i => (hF.2 n i (Nat.le_refl n)).2.1
  refine va_newa (atype := atype) (ty := t) (a0 := (N, rf_row ad M n t)) hx hb (by rw [hat]; exact hts _ h1) hat hK hPw hD hS (fun q hq => (hA q).mpr (Or.inr hq)) ?_ hx0 hxN hbig hf.1 hf.2 hd (fun q cA H1 gK g1 g2 g3 => ?_)
  · intro cA
    rcases htk with rfl | rfl | rfl | rfl <;> simp only [rf_row, rf_kd, z1, z2] <;> rfl
  · have hlast : (rf_ws ad cad (rf_shn n) M ++ [(q, (.inl (cA, N, rf_row ad M n t) : va_E))])[n]? = some (q, .inl (cA, N, rf_row ad M n t)) := by
      rw [List.getElem?_append_right (by rw [rf_ws_len]; exact Nat.le_refl n), rf_ws_len]
      show [_][n - n]? = _
      rw [Nat.sub_self]
      rfl
    have hAq : A q := g2.2 n _ hlast
    have hqn : s.heap.size ≤ q := by
      rcases (hA q).mp hAq with ⟨k0, hk0, hqk⟩ | h
      · exfalso
        have h4 := g2.1 k0 n (ad k0, rf_cell ad cad M k0 (((rf_shn n).2 k0).getD (.inr 0))) _ (by rw [List.getElem?_append_left (by rw [rf_ws_len]; exact hk0)]; exact rf_ws_lt hk0) hlast hqk.symm
        have hk0 : k0 < n := hk0
        omega
      · exact h
    have C1 := rf_ctx_up (cl := cA) (q := q) C0 hn (fun t' N' h => by rw [hs] at h; cases h; exact gK) ⟨hAq, hqn⟩
    have hk := k q cA C1
    have e1 : rf_ws ad cad (rf_shn n) M ++ [(q, (.inl (cA, N, rf_row ad M n t) : va_E))] = rf_ws (fun k => if k = n then q else ad k) (fun k => if k = n then cA else cad k) (rf_shn (n + 1)) M := by
      refine rf_ws_new hF ?_
      rw [hs]
      simp only [rf_cell, if_pos]
      congr 3
      rcases htk with rfl | rfl | rfl | rfl <;> rfl
    rw [e1] at g1 g2
    have h9 := hk H1 locs ls g1 g2 g3 (by rw [rf_lc_up hlv]; exact hl)
    have e2 : ((Value.ref n :: st).map (rf_cv (fun k => if k = n then q else ad k))) = Value.ref q :: st.map (rf_cv ad) := by
      rw [List.map_cons, rf_st_up hst]
      simp [rf_cv]
    rw [e2] at h9
    exact h9
/-- anewarray -/
theorem rf_newq (C : rf_Ctx o cc nL d (rf_shn n) K) (hF : rf_F n M) (hn : n < 1000000) (C0 : String) (N : Nat) (hs : rf_s n = .inl (.object C0, N)) {x : Int32} (hx0 : ¬ x < 0) (hxN : x.toNatClampNeg = N) (hbig : N * 4 ≤ 536870912) (hlv : lv.all (fun x => rf_nr n x.2) = true) (hst : st.all (rf_nr n) = true) {idx : Nat} (h1 : Cond.classLink (rf_own o) idx C0 ∈ rf_WS) (hao : rf_Kao K C0) (hf : rf_Fit (cells + 1) (slots + N) K) (hd : decode cc pc = .ok (.anewarray idx, 3))
    (k : ∀ (q : Nat) (cl : ClassId), rf_Ctx o cc nL d (rf_shn (n + 1)) (rf_upK K n q cl) → rf_V nL (rf_shn (n + 1)) (rf_upK K n q cl) (cells + 1) (slots + N) (pc + 3) (lv, .ref n :: st, M)) : rf_V nL (rf_shn n) K cells slots pc (lv, .int x :: st, M) := by
  obtain ⟨p, l, e, R, s, m, args, below, meth, c, D, ad, cad, A, Q⟩ := K
  have C1 := C
  obtain ⟨hx, hb, hml, hown, hts, hK, hT0, hA, hlk, hXs, hdf, hdl, hwf⟩ := C
  intro H locs ls hPw hD hS hl
  have z3 : M.2.2 n = fun _ => none := funext fun i => (hF.2 n i (Nat.le_refl n)).2.2
  refine va_newq (C := C0) hx hb hown (hts _ h1) hao hK hPw hD hS (fun q hq => (hA q).mpr (Or.inr hq)) hx0 hxN hbig hf.1 hf.2 hd (fun q cA H1 gK g1 g2 g3 => ?_)
  have hlast : (rf_ws ad cad (rf_shn n) M ++ [(q, (.inl (cA, N, .inr (.inr (.inr (.inr (fun _ => none))))) : va_E))])[n]? = some (q, .inl (cA, N, .inr (.inr (.inr (.inr (fun _ => none)))))) := by
    rw [List.getElem?_append_right (by rw [rf_ws_len]; exact Nat.le_refl n), rf_ws_len]
    show [_][n - n]? = _
    rw [Nat.sub_self]
    rfl
  have hAq : A q := g2.2 n _ hlast
  have hqn : s.heap.size ≤ q := by
    rcases (hA q).mp hAq with ⟨k0, hk0, hqk⟩ | h
    · exfalso
      have h4 := g2.1 k0 n (ad k0, rf_cell ad cad M k0 (((rf_shn n).2 k0).getD (.inr 0))) _ (by rw [List.getElem?_append_left (by rw [rf_ws_len]; exact hk0)]; exact rf_ws_lt hk0) hlast hqk.symm
      have hk0 : k0 < n := hk0
      omega
    · exact h
  have C2 := rf_ctx_up (cl := cA) (q := q) C1 hn (fun t' N' h => by rw [hs] at h; cases h; exact gK) ⟨hAq, hqn⟩
  have hk := k q cA C2
  have e1 : rf_ws ad cad (rf_shn n) M ++ [(q, (.inl (cA, N, .inr (.inr (.inr (.inr (fun _ => none))))) : va_E))] = rf_ws (fun k => if k = n then q else ad k) (fun k => if k = n then cA else cad k) (rf_shn (n + 1)) M := by
    refine rf_ws_new hF ?_
    rw [hs]
    simp only [rf_cell, rf_row, rf_kd, z3, if_pos, Option.map_none]
  rw [e1] at g1 g2
  have h9 := hk H1 locs ls g1 g2 g3 (by rw [rf_lc_up hlv]; exact hl)
  have e2 : ((Value.ref n :: st).map (rf_cv (fun k => if k = n then q else ad k))) = Value.ref q :: st.map (rf_cv ad) := by
    rw [List.map_cons, rf_st_up hst]
    simp [rf_cv]
  rw [e2] at h9
  exact h9
/-- the walk is a constructor's, or the law's -/
def rf_Ini (o : Nat) (K : rf_K) : Prop := match K with
  | (_, _, _, _, _, _, _, _, meth, _, _, _, _, _, _) => o = 32 ∨ meth.name = "<init>"
set_option maxRecDepth 20000 in
theorem rf_notlaw : ∀ ci, ci < 15 → ∀ f, f < rf_fn ci → (rf_T ci f).1 ≠ rf_own 32 := by decide +kernel
def rf_AOk (K : rf_K) : Prop := match K with
  | (_, _, _, _, s, _, _, _, _, _, _, ad, _, A, _) => rf_AO ad A s s.heap
def rf_Rc (K : rf_K) (mc ms : Nat) : Prop := match K with
  | (_, _, _, R, _, _, _, _, _, _, _, _, _, _, _) => mc ≤ R.cells ∧ ms ≤ R.slots
def rf_setK (K : rf_K) (ad : Nat → Nat) (cad : Nat → ClassId) : rf_K := match K with
  | (p, l, e, R, s, m, args, below, meth, c, D, _, _, A, Q) => (p, l, e, R, s, m, args, below, meth, c, D, ad, cad, A, Q)
def rf_ad (K : rf_K) : Nat → Nat := match K with
  | (_, _, _, _, _, _, _, _, _, _, _, ad, _, _, _) => ad
def rf_cad (K : rf_K) : Nat → ClassId := match K with
  | (_, _, _, _, _, _, _, _, _, _, _, _, cad, _, _) => cad
/-- the same walk, over more cells -/
def rf_Ext (K K' : rf_K) (n : Nat) : Prop := ∃ ad cad, K' = rf_setK K ad cad ∧ ∀ k, k < n ∨ 1000000 ≤ k → ad k = rf_ad K k ∧ cad k = rf_cad K k
theorem rf_Ext_refl (K : rf_K) (n : Nat) : rf_Ext K K n := ⟨rf_ad K, rf_cad K, by obtain ⟨p, l, e, R, s, m, args, below, meth, c, D, ad, cad, A, Q⟩ := K; rfl, fun _ _ => ⟨rfl, rfl⟩⟩
theorem rf_Ext_trans {K K1 K2 : rf_K} {n n1 : Nat} (h1 : rf_Ext K K1 n) (h2 : rf_Ext K1 K2 n1) (h : n ≤ n1) : rf_Ext K K2 n := by
  obtain ⟨ad1, cad1, rfl, g1⟩ := h1
  obtain ⟨ad2, cad2, rfl, g2⟩ := h2
  obtain ⟨p, l, e, R, s, m, args, below, meth, c, D, ad, cad, A, Q⟩ := K
  refine ⟨ad2, cad2, rfl, fun k hk => ?_⟩
  have a1 := g1 k hk
  have a2 := g2 k (by omega)
  exact ⟨a2.1.trans a1.1, a2.2.trans a1.2⟩
theorem rf_Ext_up {K : rf_K} {n q : Nat} {cl : ClassId} (hn : n < 1000000) : rf_Ext K (rf_upK K n q cl) n := by
  obtain ⟨p, l, e, R, s, m, args, below, meth, c, D, ad, cad, A, Q⟩ := K
  exact ⟨_, _, rfl, fun k hk => ⟨if_neg (by omega), if_neg (by omega)⟩⟩
/-- all that a constructor's walk keeps -/
def rf_B (o : Nat) (cc : ByteArray) (nL d mc ms n0 : Nat) (K0 : rf_K) (n : Nat) (K : rf_K) : Prop := rf_Ctx o cc nL d (rf_shn n) K ∧ rf_Ini o K ∧ rf_AOk K ∧ rf_Rc K mc ms ∧ rf_Ext K0 K n0 ∧ n0 ≤ n
variable {mc ms n0 : Nat} {K0 : rf_K}
theorem rf_B_ext {K' : rf_K} {n' : Nat} (B : rf_B o cc nL d mc ms n0 K0 n K) (hX : rf_Ext K K' n) (C : rf_Ctx o cc nL d (rf_shn n') K') (hn : n ≤ n') : rf_B o cc nL d mc ms n0 K0 n' K' := by
  obtain ⟨-, h2, h3, h4, h5, h6⟩ := B
  have h5' := rf_Ext_trans h5 hX h6
  obtain ⟨ad', cad', rfl, hag⟩ := hX
  obtain ⟨p, l, e, R, s, m, args, below, meth, c, D, ad, cad, A, Q⟩ := K
  exact ⟨C, h2, rf_AO_to h3 (fun k hk => (hag k (Or.inr hk)).1) (va_S.rf (A := A)) (fun _ h => h) (Vm.Alike.refl _), h4, h5', by omega⟩
theorem rf_fit_of {a b : Nat} (B : rf_B o cc nL d mc ms n0 K0 n K) (h1 : a ≤ mc) (h2 : b ≤ ms) : rf_Fit a b K := by
  have h4 := B.2.2.2.1
  obtain ⟨p, l, e, R, s, m, args, below, meth, c, D, ad, cad, A, Q⟩ := K
  exact ⟨Nat.le_trans h1 h4.1, Nat.le_trans h2 h4.2⟩
theorem rf_bnew (B : rf_B o cc nL d mc ms n0 K0 n K) (hF : rf_F n M) (hn : n < 1000000) (ci : Nat) (hs : rf_s n = .inr ci) (hci : ci < 15) (hty : (List.range (rf_fn ci)).all (fun j => rf_okt (rf_ft ci j)) = true) (hlv : lv.all (fun x => rf_nr n x.2) = true) (hst : st.all (rf_nr n) = true) {idx : Nat} (h1 : Cond.classLink (rf_own o) idx (rf_R ci) ∈ rf_WS) (h2 : Cond.instantiable (rf_R ci) (rf_fn ci) ∈ rf_WS) (h3 : Cond.initialized (rf_R ci) ∈ rf_WS) (hc : cells + 1 ≤ mc) (hsl : slots + rf_fn ci ≤ ms) (hd : decode cc pc = .ok (.new idx, 3))
    (k : ∀ K', rf_B o cc nL d mc ms n0 K0 (n + 1) K' → rf_F (n + 1) M → rf_V nL (rf_shn (n + 1)) K' (cells + 1) (slots + rf_fn ci) (pc + 3) (lv, .ref n :: st, M)) : rf_V nL (rf_shn n) K cells slots pc (lv, st, M) :=
  rf_new B.1 hF hn ci hs hci hty hlv hst h1 h2 h3 (rf_fit_of B hc hsl) hd (fun q cl C => k _ (rf_B_ext B (rf_Ext_up hn) C (Nat.le_succ n)) (rf_F_succ hF))
theorem rf_bnewa (B : rf_B o cc nL d mc ms n0 K0 n K) (hF : rf_F n M) (hn : n < 1000000) (t : FieldType) (N : Nat) (hs : rf_s n = .inl (t, N)) (atype : ArrayType) (hat : newarray.typeOf atype = t) (htk : t = .int ∨ t = .long ∨ t = .boolean ∨ t = .byte) {x : Int32} (hx0 : ¬ x < 0) (hxN : x.toNatClampNeg = N) (hbig : N * componentBytes t ≤ 536870912) (hlv : lv.all (fun x => rf_nr n x.2) = true) (hst : st.all (rf_nr n) = true) (h1 : Cond.arrayClass t ∈ rf_WS) (hc : cells + 1 ≤ mc) (hsl : slots + N ≤ ms) (hd : decode cc pc = .ok (.newarray atype, 2))
    (k : ∀ K', rf_B o cc nL d mc ms n0 K0 (n + 1) K' → rf_F (n + 1) M → rf_V nL (rf_shn (n + 1)) K' (cells + 1) (slots + N) (pc + 2) (lv, .ref n :: st, M)) : rf_V nL (rf_shn n) K cells slots pc (lv, .int x :: st, M) :=
  rf_newa B.1 hF hn t N hs atype hat htk hx0 hxN hbig hlv hst h1 (rf_fit_of B hc hsl) hd (fun q cl C => k _ (rf_B_ext B (rf_Ext_up hn) C (Nat.le_succ n)) (rf_F_succ hF))
theorem rf_bnewq (B : rf_B o cc nL d mc ms n0 K0 n K) (hF : rf_F n M) (hn : n < 1000000) (C0 : String) (N : Nat) (hs : rf_s n = .inl (.object C0, N)) {x : Int32} (hx0 : ¬ x < 0) (hxN : x.toNatClampNeg = N) (hbig : N * 4 ≤ 536870912) (hlv : lv.all (fun x => rf_nr n x.2) = true) (hst : st.all (rf_nr n) = true) {idx : Nat} (h1 : Cond.classLink (rf_own o) idx C0 ∈ rf_WS) (hao : C0 = "GreatArc$Big" ∨ C0 = "GreatArcModel$Rule") (hc : cells + 1 ≤ mc) (hsl : slots + N ≤ ms) (hd : decode cc pc = .ok (.anewarray idx, 3))
    (k : ∀ K', rf_B o cc nL d mc ms n0 K0 (n + 1) K' → rf_F (n + 1) M → rf_V nL (rf_shn (n + 1)) K' (cells + 1) (slots + N) (pc + 3) (lv, .ref n :: st, M)) : rf_V nL (rf_shn n) K cells slots pc (lv, .int x :: st, M) := by
  refine rf_newq B.1 hF hn C0 N hs hx0 hxN hbig hlv hst h1 ?_ (rf_fit_of B hc hsl) hd (fun q cl C => k _ (rf_B_ext B (rf_Ext_up hn) C (Nat.le_succ n)) (rf_F_succ hF))
  have h3 := B.2.2.1
  obtain ⟨p, l, e, R, s, m, args, below, meth, c, D, ad, cad, A, Q⟩ := K
  rcases hao with rfl | rfl
  · exact h3.1
  · exact h3.2.1
/-- a final field of references is set -/
theorem rf_bputr (B : rf_B o cc nL d mc ms n0 K0 n K) (hF : rf_F n M) (ci f : Nat) {a j : Nat} (ha : rf_at (rf_shn n) a = some (.inr ci)) (hk : rf_kd (rf_ft ci f) = 2) (hown0 : (rf_T ci f).1 = rf_own o) (hj : j < n) {idx : Nat} (hlnk : (rf_FL o).any (fun e => e.1 == idx && e.2.1 == ci && e.2.2.1 == f) = true) (hd : decode cc pc = .ok (.putfield idx, 3))
    (k : rf_F n (rf_uR M a f (some j)) → rf_V nL (rf_shn n) K cells slots (pc + 3) (lv, st, rf_uR M a f (some j))) : rf_V nL (rf_shn n) K cells slots pc (lv, .ref j :: .ref a :: st, M) := by
  have hFn := rf_F_uR (k := a) (i := f) (j := j) hF (rf_at_lt (rf_shn_wf n) ha) hj
  have k := k hFn
  obtain ⟨C, hin, -⟩ := B
  obtain ⟨p, l, e, R, s, m, args, below, meth, c, D, ad, cad, A, Q⟩ := K
  obtain ⟨hx, hb, hml, hown, hts, hK, hT0, hA, hlk, hXs, hdf, hdl, hwf⟩ := C
  intro H locs ls hPw hD hS hl
  obtain ⟨h15, hf, hlk0⟩ := rf_FL_of hlnk
  have hnar : narrow (rf_ft ci f) (.ref (ad j)) = .ref (ad j) := by cases rf_ft ci f <;> rfl
  have hfit : fits (rf_ft ci f) (.ref (ad j)) = true := by
    cases h : rf_ft ci f <;> rw [h] at hk <;> first | rfl | (exact absurd hk (by decide))
  have e : (rf_ws ad cad (rf_shn n) M).set a (ad a, .inr (ci, ((List.range (rf_fn ci)).map (fun i => rf_cv ad (rf_rd M (rf_ft ci i) a i))).set f (.ref (ad j)))) = rf_ws ad cad (rf_shn n) (rf_uR M a f (some j)) := rf_ws_set hwf ha (rf_cell_put (v := .ref (ad j)) (by rw [rf_rd_uR hk]; rfl) (fun i hi => rf_rd_uR_ne hi)) rf_uR_ne
  have hin : meth.name = "<init>" := hin.elim (fun h => absurd (hown0.trans (by rw [h])) (rf_notlaw ci h15 f hf)) id
  by_cases hfin : (rf_T ci f).2.2.2 = true
  · exact va_putF (C := rf_R ci) (T := rf_T ci) (N := rf_fn ci) (ty := rf_ft ci f) hx hb hts (rf_wsin ci h15) (rf_ft ci) (rf_tyok ci h15) (rf_nmok ci h15) hown hK hPw hD hS a (rf_ws_at hwf ha) (rf_cl ci h15) f hf (hts _ hlk0) (fun _ h => h) hfin hin hown0 (rf_tyok ci h15 f hf) (v := .ref (ad j)) hnar hfit (by simpa using hf) hd (fun H1 locs1 g1 g2 g3 => k H1 locs1 ls (e ▸ g1) (e ▸ g2) g3 hl)
  · exact va_put (C := rf_R ci) (T := rf_T ci) (N := rf_fn ci) (ty := rf_ft ci f) hx hb hts (rf_wsin ci h15) (rf_ft ci) (rf_tyok ci h15) (rf_nmok ci h15) hown hK hPw hD hS a (rf_ws_at hwf ha) (rf_cl ci h15) f hf (hts _ hlk0) (fun _ h => h) (by simpa using hfin) (rf_tyok ci h15 f hf) (v := .ref (ad j)) hnar hfit (by simpa using hf) hd (fun H1 locs1 g1 g2 g3 => k H1 locs1 ls (e ▸ g1) (e ▸ g2) g3 hl)
/-- a reference into an array -/
theorem rf_baast (B : rf_B o cc nL d mc ms n0 K0 n K) (hF : rf_F n M) (ci : Nat) {a j N : Nat} {x : Int32} (ha : rf_at (rf_shn n) a = some (.inl (.object (rf_R ci), N))) (hj : rf_at (rf_shn n) j = some (.inr ci)) (hci : ci < 15) (hin0 : vp_in x N) (hd : decode cc pc = .ok (.aastore, 1))
    (k : rf_F n (rf_uR M a x.toNatClampNeg (some j)) → rf_V nL (rf_shn n) K cells slots (pc + 1) (lv, st, rf_uR M a x.toNatClampNeg (some j))) : rf_V nL (rf_shn n) K cells slots pc (lv, .ref j :: .int x :: .ref a :: st, M) := by
  have hFn := rf_F_uR (k := a) (i := x.toNatClampNeg) (j := j) hF (rf_at_lt (rf_shn_wf n) ha) (rf_at_lt (rf_shn_wf n) hj)
  have k := k hFn
  obtain ⟨C, hin, -⟩ := B
  obtain ⟨p, l, e, R, s, m, args, below, meth, c, D, ad, cad, A, Q⟩ := K
  obtain ⟨hx, hb, hml, hown, hts, hK, hT0, hA, hlk, hXs, hdf, hdl, hwf⟩ := C
  intro H locs ls hPw hD hS hl
  have e : (rf_ws ad cad (rf_shn n) M).set a (ad a, .inl (cad a, N, .inr (.inr (.inr (.inr (va_up (fun i => (M.2.2 a i).map ad) x.toNatClampNeg (some (ad j)))))))) = rf_ws ad cad (rf_shn n) (rf_uR M a x.toNatClampNeg (some j)) := rf_ws_set hwf ha (by
    simp only [rf_cell, rf_row, rf_kd]
    congr 8
    funext i
    by_cases hi : i = x.toNatClampNeg <;> simp [rf_uR, va_up, hi]) rf_uR_ne
  exact va_astq (r := (rf_R ci, rf_T ci, rf_fn ci)) hx hb (hT0 a _ _ ha) hPw hD hS a 0 j ci (rf_ws_at hwf ha) rfl (rf_ws_at hwf hj) (rf_cl ci hci) hin0 hd (fun H1 locs1 g1 g2 g3 => k H1 locs1 ls (e ▸ g1) (e ▸ g2) g3 hl)
/-- Object.<init> -/
theorem rf_oinit {sh : rf_Sh} (C : rf_Ctx o cc nL d sh K) (hd1 : 1 ≤ d) {a idx : Nat} (h1 : Cond.methodLink (rf_own o) idx objectInit ∈ rf_WS) (h2 : Cond.instanceMethod objectInit ∈ rf_WS) (h3 : Cond.code objectInit ⟨#[0xb1]⟩ 1 none ∈ rf_WS) (hrest : (st.map fun v => v.category).sum ≤ 8) (hd : decode cc pc = .ok (.invokespecial idx, 3)) (k : rf_V nL sh K cells slots (pc + 3) (lv, st, M)) : rf_V nL sh K cells slots pc (lv, .ref a :: st, M) := by
  obtain ⟨p, l, e, R, s, m, args, below, meth, c, D, ad, cad, A, Q⟩ := K
  obtain ⟨hx, hb, hml, hown, hts, hK, hT0, hA, hlk, hXs, hdf, hdl, hwf⟩ := C
  intro H locs ls hPw hD hS hl
  have e1 : ((st.map (rf_cv ad)).map fun v => v.category).sum ≤ 8 := by
    rw [List.map_map]
    simpa [Function.comp_def, rf_cat] using hrest
  exact W.objInit hx hb hown (hts _ h1) (hts _ h2) (hts _ h3) rfl (by rw [hml]; exact hl.1) rfl hd (by omega) (by show 2 * 0 + _ + 12 ≤ _; omega) (k H locs ls hPw hD hS hl)
-- constructors' contracts
def rf_QA (D : va_G) (ad : Nat → Nat) (cad : Nat → ClassId) (n n' : Nat) (M' : rf_M) (A : Nat → Prop) : Array Value → State → Outcome → State → Prop := fun _ st oc t => oc = .returned none ∧ (∃ ad' cad', (∀ k, k < n ∨ 1000000 ≤ k → ad' k = ad k ∧ cad' k = cad k) ∧ va_P D vwCl (rf_ws ad' cad' (rf_shn n') M') t.heap ∧ (∀ k ty N, rf_at (rf_shn n') k = some (.inl (ty, N)) → va_K D vwCl [(cad' k, ty)] t) ∧ va_D A (rf_ws ad' cad' (rf_shn n') M') ∧ ∀ q, A q ↔ rf_A ad' n' st.heap.size q) ∧ va_F A st t
def rf_EndA (K : rf_K) (n n' : Nat) (M' : rf_M) (mc ms : Nat) : Prop := match K with
  | (_, _, _, _, s, _, args, below, meth, _, D, ad, cad, A, Q) => meth.sig.returnType = none ∧ Q = MQ below (rf_QA D ad cad n n' M' A) args s mc ms A
theorem rf_vretA (B : rf_B o cc nL d mc ms n0 K0 n K) (hE : rf_EndA K0 n0 n M mc ms) (hd : decode cc pc = .ok (.return_, 1)) : rf_V nL (rf_shn n) K mc ms pc (lv, [], M) := by
  obtain ⟨C, -, -, -, hX, -⟩ := B
  obtain ⟨ad1, cad1, rfl, hag⟩ := hX
  obtain ⟨p, l, e, R, s, m, args, below, meth, c, D, ad, cad, A, Q⟩ := K0
  obtain ⟨hx, hb, hml, hown, hts, hK, hT0, hA, hlk, hXs, hdf, hdl, hwf⟩ := C
  obtain ⟨hr, rfl⟩ := hE
  intro H locs ls hPw hD hS hl
  exact W.vret hx hb hr (fun t ht hW => ⟨rfl, ⟨ad1, cad1, hag, by rw [ht]; exact hPw, fun k ty N h => va_K.moved hW.alike (hT0 k ty N h), hD, hA⟩, hS.F ht⟩) hS.2.2 hd hlk
def rf_ConA (J : rf_J) (d mc ms n : Nat) (args : List Value) (M : rf_M) (n' : Nat) (M' : rf_M) : Prop := ∀ (l : Launch) (D : va_G) (ad : Nat → Nat) (cad : Nat → ClassId) (sz : Nat), Met l J.2.1 (.code J.2.1 J.2.2.1 J.2.2.2.1 J.2.2.2.2 :: rf_WS) (rf_rm d mc ms) (va_Pc (args.map (rf_cv ad)) (fun U => rf_In D ad cad (rf_shn n) M sz U ∧ rf_AO ad (rf_A ad n sz) U U.heap)) (rf_QA D ad cad n n' M' (rf_A ad n sz)) mc ms (rf_A ad n sz)
theorem rf_conA (J : rf_J) (d mc ms n n' : Nat) {args : List Value} {M M' : rf_M} (hJ : plainFor J.2.1 = true ∧ J.2.1.cls = rf_own J.1 ∧ J.2.1.name = "<init>" ∧ (lg_sl args).length ≤ J.2.2.2.1)
    (h : ∀ K0 : rf_K, rf_B J.1 J.2.2.1 J.2.2.2.1 d mc ms n K0 n K0 → rf_EndA K0 n n' M' mc ms → rf_V J.2.2.2.1 (rf_shn n) K0 0 0 0 (lv_args 0 args, [], M)) (hret : J.2.2.2.2 = none) : rf_ConA J d mc ms n args M n' M' := by
  intro l D ad cad sz
  obtain ⟨o, y, cc, nL, ret⟩ := J
  obtain ⟨hpl, hcls, hnm, hlen⟩ := hJ
  have hret : ret = none := hret
  subst hret
  refine va_MetF (cc := cc) (maxL := nL) (ret := none) hpl rfl ?_
  intro p e s m args' below meth c s₁ B hml hv
  obtain ⟨rfl, ⟨hsz, hPw, hK, hT, hD0, hX, hwf⟩, hAO⟩ := hv
  have hts := atoms_spec (ws := .code y cc nL none :: rf_WS) B.pre
  have hown : s.vm.findClass y.cls = some m.cls := findClass_of_methodNamed B.named
  have hin : meth.name = "<init>" := by rw [(name_of_methodNamed B.named B.method).1]; exact hnm
  subst hsz
  have hA : ∀ q, rf_A ad n s.heap.size q ↔ rf_A ad n s.heap.size q := fun _ => Iff.rfl
  have hV := h (p, l, e, rf_rm d mc ms, s, m, _, below, meth, c, D, ad, cad, rf_A ad n s.heap.size, _)
    ⟨⟨B.exec, B.bytes, hml, by rw [← hcls]; exact hown, fun w hw => hts w (List.mem_cons_of_mem _ hw), hK, hT, hA, B.notSynchronized, hX, Nat.le_refl d, Nat.le_refl _, hwf⟩, Or.inr hin, hAO, ⟨Nat.le_refl _, Nat.le_refl _⟩, rf_Ext_refl _ _, Nat.le_refl _⟩ ⟨B.returns, rfl⟩
  have hl := lv_entry (args.map (rf_cv ad)) (n := nL) (by rw [rf_sl_len]; exact hlen)
  rw [rf_lc_args] at hl
  rw [lg_entry_eq]
  exact hV s.heap [] _ hPw (rf_D_A hD0 hA) va_S.rf hl
def rf_br (n : Nat) (v : Value) : Bool := match v with
  | .ref k => Nat.ble (k + 1) n || Nat.ble 1000000 k
  | _ => true
def rf_mi (J : rf_J) (n : Nat) : Prop := (Cond.instanceMethod J.2.1 ∈ rf_WS ∧ Cond.initialized J.2.1.cls ∈ rf_WS ∧ Cond.code J.2.1 J.2.2.1 J.2.2.2.1 J.2.2.2.2 ∈ rf_WS) ∧ (J.2.1.cls ≠ "java/lang/invoke/MethodHandle" ∧ J.2.1.cls ≠ "java/lang/invoke/VarHandle" ∧ (parseMethodDescriptor J.2.1.desc).map (fun d => d.parameters.length) = some n) ∧ J.2.2.2.1 ≤ 45 ∧ J.2.1.name = "<init>" ∧ J.2.2.2.2 = none
theorem rf_afterA {p : Program} {l : Launch} {e : Env} {R : Room} {s : State} {m : MethodId} {args : Array Value} {below : List Frame} {meth : Method} {c : Code} {D : va_G} {ad : Nat → Nat} {cad : Nat → ClassId} {A : Nat → Prop} {Q : State → Prop} {H : Heap} {locs : List Loc} {ls : Array Slot} {a0 : Array Value} {rest st0 : List Value} {M' : rf_M} {n' mc' ms' : Nat}
    (B : rf_B o cc nL d mc ms n0 K0 n (p, l, e, R, s, m, args, below, meth, c, D, ad, cad, A, Q)) (hnn : n ≤ n') (hS : va_S A s.heap H locs) (hl : lv_has ls nL (rf_lc ad lv)) (hlv : lv.all (fun x => rf_br n x.2) = true) (hrs : rest.all (rf_br n) = true)
    (hr : va_Run p l e R s m args below meth c H locs cells slots mc' ms' (F0 m pc ls st0) (rest.map (rf_cv ad)) (rf_QA D ad cad n n' M' (rf_A ad n H.size) a0) (rf_A ad n H.size))
    (k : ∀ K', rf_B o cc nL d mc ms n0 K0 n' K' → rf_V nL (rf_shn n') K' (cells + mc') (slots + ms') (pc + 3) (lv, rest, M')) : W p l e R s m args below meth c H locs cells slots Q (F0 m pc ls st0) := by
  have C := B.1
  obtain ⟨hx, hb, hml, hown, hts, hK, hT0, hA, hlk, hXs, hdf, hdl, hwf⟩ := C
  have hsub : ∀ q, rf_A ad n H.size q → A q := by
    intro q hq
    refine (hA q).mpr ?_
    rcases hq with h | h
    · exact Or.inl h
    · exact Or.inr (Nat.le_trans hS.1 h)
  intro T hT X
  obtain ⟨v', st₀, t, T', L, h0, X', hL, e1, e2, ⟨hv, ⟨ad', cad', hag, hp, hty, hD1, hA1⟩, hz, hk⟩, stp⟩ := hr T hT X
  cases hv
  rw [h0] at hz hk hA1
  have hvm : s.vm.Alike t.vm := by rw [← e2]; exact X'.warmed.alike
  have hS' : va_S A s.heap T'.heap (locs ++ L) := by
    refine ⟨by rw [e1]; exact Nat.le_trans hS.1 hz, fun q h1 h2 => ?_, fun x hx => ?_⟩
    · rw [e1, hk q (Nat.lt_of_lt_of_le h1 hS.1) (fun h => h2 (hsub q h))]
      exact hS.2.1 q h1 h2
    · rcases List.mem_append.mp hx with h | h
      · exact hS.2.2 x h
      · exact hsub _ (hL x h)
  have hext : rf_Ext (p, l, e, R, s, m, args, below, meth, c, D, ad, cad, A, Q) (p, l, e, R, s, m, args, below, meth, c, D, ad', cad', A, Q) n := ⟨ad', cad', rfl, hag⟩
  have C' : rf_Ctx o cc nL d (rf_shn n') (p, l, e, R, s, m, args, below, meth, c, D, ad', cad', A, Q) := by
    refine ⟨hx, hb, hml, hown, hts, hK, fun k ty N h => va_K.moved hvm.symm (hty k ty N h), ?_, hlk, rf_X_ad hXs (fun k hk => (hag k (Or.inr hk)).1), hdf, hdl, rf_shn_wf _⟩
    intro q
    constructor
    · intro hq
      rcases (hA q).mp hq with ⟨k0, hk0, rfl⟩ | h
      · have hk0 : k0 < n := hk0
        exact Or.inl ⟨k0, show k0 < n' by omega, (hag k0 (Or.inl hk0)).1.symm⟩
      · exact Or.inr h
    · rintro (⟨k0, hk0, rfl⟩ | h)
      · exact hsub _ ((hA1 _).mpr (Or.inl ⟨k0, hk0, rfl⟩))
      · exact (hA q).mpr (Or.inr h)
  have hk9 := k _ (rf_B_ext B hext C' hnn)
  have ecv : ∀ v, rf_br n v = true → rf_cv ad' v = rf_cv ad v := by
    intro v hv
    cases v with
    | ref j =>
      have hj : j < n ∨ 1000000 ≤ j := by
        simp only [rf_br, Bool.or_eq_true] at hv
        rcases hv with h | h
        · exact Or.inl (Nat.le_of_ble_eq_true h)
        · exact Or.inr (Nat.le_of_ble_eq_true h)
      simp [rf_cv, (hag j hj).1]
    | _ => rfl
  have el : rf_lc ad' lv = rf_lc ad lv := by
    unfold rf_lc
    apply List.map_congr_left
    intro x hx
    rw [ecv x.2 (List.all_eq_true.mp hlv x hx)]
  have er : rest.map (rf_cv ad') = rest.map (rf_cv ad) := by
    apply List.map_congr_left
    intro x hx
    rw [ecv x (List.all_eq_true.mp hrs x hx)]
  have hw := hk9 T'.heap (locs ++ L) ls (by rw [e1]; exact hp) (hD1.weaken (fun _ _ _ h => hsub _ h)) hS' (by rw [el]; exact hl)
  obtain ⟨t2, a1, b1⟩ := hw T' rfl X'
  refine ⟨t2, stp t2 ?_, b1⟩
  rw [show ((lv, rest, M') : rf_S).2.1 = rest from rfl, er] at a1
  exact a1
theorem rf_bcall (B : rf_B o cc nL d mc ms n0 K0 n K) (J : rf_J) {dc mc' ms' n' na idx a : Nat} {As rest stk : List Value} {M' : rf_M} (hm : rf_mi J na) (hM : rf_ConA J dc mc' ms' n (.ref a :: As) M n' M') (hdc : dc < d) (hnn : n ≤ n') (hlink : Cond.methodLink (rf_own o) idx J.2.1 ∈ rf_WS) (hna : As.length = na) (hst : stk = As.reverse ++ .ref a :: rest) (hrest : (rest.map fun v => v.category).sum ≤ 8) (hlv : lv.all (fun x => rf_br n x.2) = true) (hrs : rest.all (rf_br n) = true) (hc : cells + mc' ≤ mc) (hsl : slots + ms' ≤ ms) (hd : decode cc pc = .ok (.invokespecial idx, 3))
    (k : ∀ K', rf_B o cc nL d mc ms n0 K0 n' K' → rf_V nL (rf_shn n') K' (cells + mc') (slots + ms') (pc + 3) (lv, rest, M')) : rf_V nL (rf_shn n) K cells slots pc (lv, stk, M) := by
  subst hst
  have hf := rf_fit_of B hc hsl
  obtain ⟨p, l, e, R, s, m, args, below, meth, c, D, ad, cad, A, Q⟩ := K
  have C0 := B.1
  have hAO := B.2.2.1
  obtain ⟨hx, hb, hml, hown, hts, hK, hT0, hA, hlk, hXs, hdf, hdl, hwf⟩ := C0
  have C0 := B.1
  obtain ⟨yo, y, yc, yn, yr⟩ := J
  obtain ⟨⟨m1, m3, m4⟩, m5, m6, m7, m8⟩ := hm
  have m8 : yr = none := m8
  subst m8
  intro H locs ls hPw hD hS hl
  have e0 : (As.reverse ++ Value.ref a :: rest).map (rf_cv ad) = (As.map (rf_cv ad)).reverse ++ Value.ref (ad a) :: rest.map (rf_cv ad) := by simp [rf_cv]
  have e1 : ((rest.map (rf_cv ad)).map fun v => v.category).sum ≤ 8 := by
    rw [List.map_map]
    simpa [Function.comp_def, rf_cat] using hrest
  have m6 : yn ≤ 45 := m6
  show W p l e R s m args below meth c H locs cells slots Q (F0 m pc ls ((As.reverse ++ Value.ref a :: rest).map (rf_cv ad)))
  rw [e0]
  have hw : CallB R s args (rf_own o) idx y yc yn none (.code y yc yn none :: rf_WS) (rf_rm dc mc' ms') mc' ms' na ∧ y.name = "<init>" ∧ (Cond.instanceMethod y).before args s = true := ⟨callB_of na hts (rf_goodJ m4) rfl rfl rfl (hts _ m3) (hts _ hlink) m5 ⟨by show dc + 1 ≤ _; omega, by show 8 + (yn + 11) + 64 * dc ≤ _; omega⟩, m7, hts _ m1⟩
  have hpre : PreS s H (va_Pc ((Value.ref a :: As).map (rf_cv ad)) (fun U => rf_In D ad cad (rf_shn n) M H.size U ∧ rf_AO ad (rf_A ad n H.size) U U.heap)) (Value.ref (ad a) :: As.map (rf_cv ad)) := by
    refine ⟨fun a' U g mk q => ?_, fun U hU hW => ?_⟩
    · obtain ⟨q0, q1, q2⟩ := q
      exact ⟨q0, (rf_In_blind (av := (Value.ref a :: As).map (rf_cv ad)) a' U g mk ⟨q0, q1⟩).2, rf_AO_same (u := U) (U := U.calling g mk a') q2 (Vm.Alike.refl U.vm)⟩
    · refine ⟨rfl, (rf_pre C0 hPw hD hS [] U hU hW).2, ?_⟩
      rw [hU]
      exact rf_AO_to hAO (fun _ _ => rfl) hS (fun q hq => (hA q).mpr (hq.imp id (fun h => Nat.le_trans hS.1 h))) hW.alike
  exact rf_afterA (Q := Q) B hnn hS hl hlv hrs (va_runI (As := As.map (rf_cv ad)) (rest := rest.map (rf_cv ad)) ⟨hx, hb, hml, hown, hts⟩ (hM l D ad cad H.size) hw hpre rfl (by simpa using hna) hl.1 rfl (lv_room e1) hd hf) k
theorem rf_bcallN (B : rf_B o cc nL d mc ms n0 K0 n K) (J : rf_J) {dc mc' ms' n' na idx a ho : Nat} {As rest stk : List Value} {M' : rf_M} (hm : rf_mi J na) (hM : rf_ConA J dc mc' ms' n (.ref a :: As) M n' M') (hdc : dc < d) (hnn : n ≤ n') (hlink : (o, idx, J.2.1, ho) ∈ rf_NM) (hna : As.length = na) (hst : stk = As.reverse ++ .ref a :: rest) (hrest : (rest.map fun v => v.category).sum ≤ 8) (hlv : lv.all (fun x => rf_br n x.2) = true) (hrs : rest.all (rf_br n) = true) (hc : cells + mc' ≤ mc) (hsl : slots + ms' ≤ ms) (hd : decode cc pc = .ok (.invokespecial idx, 3))
    (k : ∀ K', rf_B o cc nL d mc ms n0 K0 n' K' → rf_V nL (rf_shn n') K' (cells + mc') (slots + ms') (pc + 3) (lv, rest, M')) : rf_V nL (rf_shn n) K cells slots pc (lv, stk, M) := by
  subst hst
  have hf := rf_fit_of B hc hsl
  obtain ⟨p, l, e, R, s, m, args, below, meth, c, D, ad, cad, A, Q⟩ := K
  have C0 := B.1
  have hAO := B.2.2.1
  obtain ⟨hx, hb, hml, hown, hts, hK, hT0, hA, hlk, hXs, hdf, hdl, hwf⟩ := C0
  have C0 := B.1
  obtain ⟨yo, y, yc, yn, yr⟩ := J
  obtain ⟨⟨m1, m3, m4⟩, m5, m6, m7, m8⟩ := hm
  have m8 : yr = none := m8
  subst m8
  intro H locs ls hPw hD hS hl
  have e0 : (As.reverse ++ Value.ref a :: rest).map (rf_cv ad) = (As.map (rf_cv ad)).reverse ++ Value.ref (ad a) :: rest.map (rf_cv ad) := by simp [rf_cv]
  have e1 : ((rest.map (rf_cv ad)).map fun v => v.category).sum ≤ 8 := by
    rw [List.map_map]
    simpa [Function.comp_def, rf_cat] using hrest
  have m6 : yn ≤ 45 := m6
  show W p l e R s m args below meth c H locs cells slots Q (F0 m pc ls ((As.reverse ++ Value.ref a :: rest).map (rf_cv ad)))
  rw [e0]
  have hnw : va_Nw (.methodLinkNest (rf_own o) idx y (rf_own ho)) s := hXs.1.1.2 (o, idx, y, ho) hlink
  have hw : va_CN R s args (rf_own o) idx y (rf_own ho) yc yn none (.code y yc yn none :: rf_WS) (rf_rm dc mc' ms') mc' ms' na ∧ y.name = "<init>" ∧ (Cond.instanceMethod y).before args s = true := ⟨va_cnB na hts (rf_goodJ m4) rfl rfl rfl hnw (hts _ m3) m5 ⟨by show dc + 1 ≤ _; omega, by show 8 + (yn + 11) + 64 * dc ≤ _; omega⟩, m7, hts _ m1⟩
  have hpre : PreS s H (va_Pc ((Value.ref a :: As).map (rf_cv ad)) (fun U => rf_In D ad cad (rf_shn n) M H.size U ∧ rf_AO ad (rf_A ad n H.size) U U.heap)) (Value.ref (ad a) :: As.map (rf_cv ad)) := by
    refine ⟨fun a' U g mk q => ?_, fun U hU hW => ?_⟩
    · obtain ⟨q0, q1, q2⟩ := q
      exact ⟨q0, (rf_In_blind (av := (Value.ref a :: As).map (rf_cv ad)) a' U g mk ⟨q0, q1⟩).2, rf_AO_same (u := U) (U := U.calling g mk a') q2 (Vm.Alike.refl U.vm)⟩
    · refine ⟨rfl, (rf_pre C0 hPw hD hS [] U hU hW).2, ?_⟩
      rw [hU]
      exact rf_AO_to hAO (fun _ _ => rfl) hS (fun q hq => (hA q).mpr (hq.imp id (fun h => Nat.le_trans hS.1 h))) hW.alike
  exact rf_afterA (Q := Q) B hnn hS hl hlv hrs (va_runIN (As := As.map (rf_cv ad)) (rest := rest.map (rf_cv ad)) ⟨hx, hb, hml, hown, hts⟩ (hM l D ad cad H.size) hw hpre rfl (by simpa using hna) hl.1 rfl (lv_room e1) hd hf) k
end RFN
