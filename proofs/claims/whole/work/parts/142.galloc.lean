/-! making cells over any picture: a call that may leave more cells (partly written by wip/tool/galloc.py out of alloc.lean.txt) -/
section RFG
/-- one cell more -/
def rf_xt (sh sh' : rf_Sh) (c : rf_C) : Prop := sh'.1 = sh.1 + 1 ∧ (∀ k, k ≠ sh.1 → sh'.2 k = sh.2 k) ∧ sh'.2 sh.1 = some c
theorem rf_xt_wf {sh sh' : rf_Sh} {c : rf_C} (hw : rf_Wf sh) (h : rf_xt sh sh' c) : rf_Wf sh' := by
  intro k
  rw [h.1]
  by_cases hk : k = sh.1
  · subst hk
    rw [h.2.2]
    exact ⟨fun _ => Nat.lt_succ_self _, fun _ => rfl⟩
  · rw [h.2.1 k hk]
    have := hw k
    constructor
    · intro h1; have := this.mp h1; omega
    · intro h1; exact this.mpr (by omega)
theorem rf_ws_gnew {ad : Nat → Nat} {cad : Nat → ClassId} {sh sh' : rf_Sh} {cS : rf_C} {q : Nat} {cl : ClassId} {M : rf_M} {e : va_E} (hX : rf_xt sh sh' cS) (hF : rf_F sh.1 M) (he : rf_cell (fun k => if k = sh.1 then q else ad k) (fun k => if k = sh.1 then cl else cad k) M sh.1 cS = e) : rf_ws ad cad sh M ++ [(q, e)] = rf_ws (fun k => if k = sh.1 then q else ad k) (fun k => if k = sh.1 then cl else cad k) sh' M := by
  obtain ⟨n, f⟩ := sh
  obtain ⟨n', f'⟩ := sh'
  obtain ⟨rfl, h2, h3⟩ := hX
  have hF : rf_F n M := hF
  show (List.range n).map _ ++ _ = (List.range (n + 1)).map _
  rw [List.range_succ, List.map_append]
  congr 1
  · apply List.map_congr_left
    intro k hk
    have hk : k < n := List.mem_range.mp hk
    have hne : k ≠ n := by omega
    have h1 : f' k = f k := h2 k hne
    show (ad k, rf_cell ad cad M k ((f k).getD (.inr 0))) = ((if k = n then q else ad k), rf_cell (fun k => if k = n then q else ad k) (fun k => if k = n then cl else cad k) M k ((f' k).getD (.inr 0)))
    rw [h1]
    rw [rf_cell_ad (ad' := fun k => if k = n then q else ad k) (cad' := fun k => if k = n then cl else cad k) (ad := ad) (cad := cad) _ (fun i j hj => if_neg (by have := hF.1 k i j hj; omega)) (if_neg hne)]
    simp only [if_neg hne]
  · have h3 : f' n = some cS := h3
    simp only [List.map_cons, List.map_nil, h3, if_pos, Option.getD_some]
    rw [← he]
variable {o nL d : Nat} {cc : ByteArray} {cells slots pc : Nat} {K : rf_K} {lv : rf_L} {st : List Value} {M : rf_M} {sh sh' : rf_Sh} {cS : rf_C}
theorem rf_ctx_gup {q : Nat} {cl : ClassId} (C : rf_Ctx o cc nL d sh K) (hX : rf_xt sh sh' cS) (hn : sh.1 < 1000000) (hT : ∀ t N, cS = .inl (t, N) → rf_KT K cl t) (hq : rf_Kq K q) : rf_Ctx o cc nL d sh' (rf_upK K sh.1 q cl) := by
  obtain ⟨p, l, e, R, s, m, args, below, meth, c, D, ad, cad, A, Q⟩ := K
  obtain ⟨hx, hb, hml, hown, hts, hK, hT0, hA, hlk, hXs, hdf, hdl, hwf⟩ := C
  refine ⟨hx, hb, hml, hown, hts, hK, ?_, ?_, hlk, ?_, hdf, hdl, rf_xt_wf hwf hX⟩
  · intro k t N hk
    show va_K D vwCl [((if k = sh.1 then cl else cad k), t)] s
    unfold rf_at at hk
    by_cases hkn : k = sh.1
    · rw [if_pos hkn]
      rw [hkn, hX.2.2] at hk
      exact hT t N (Option.some.inj hk)
    · rw [if_neg hkn]
      rw [hX.2.1 k hkn] at hk
      exact hT0 k t N hk
  · intro x
    constructor
    · intro hx
      rcases (hA x).mp hx with ⟨k, hk, rfl⟩ | h
      · exact Or.inl ⟨k, by rw [hX.1]; omega, (if_neg (by omega)).symm⟩
      · exact Or.inr h
    · rintro (⟨k, hk, rfl⟩ | h)
      · rw [hX.1] at hk
        show A (if k = sh.1 then q else ad k)
        by_cases hkn : k = sh.1
        · rw [if_pos hkn]; exact hq.1
        · rw [if_neg hkn]; exact (hA _).mpr (Or.inl ⟨k, by omega, rfl⟩)
      · exact (hA x).mpr (Or.inr h)
  · exact rf_X_ad hXs (fun k hk => if_neg (by omega))
theorem rf_gnew (C : rf_Ctx o cc nL d sh K) (hF : rf_F sh.1 M) (hn : sh.1 < 1000000) (ci : Nat) (hX : rf_xt sh sh' cS) (hs : cS = .inr ci) (hci : ci < 15) (hty : (List.range (rf_fn ci)).all (fun j => rf_okt (rf_ft ci j)) = true) (hlv : lv.all (fun x => rf_nr sh.1 x.2) = true) (hst : st.all (rf_nr sh.1) = true) {idx : Nat} (h1 : Cond.classLink (rf_own o) idx (rf_R ci) ∈ rf_WS) (h2 : Cond.instantiable (rf_R ci) (rf_fn ci) ∈ rf_WS) (h3 : Cond.initialized (rf_R ci) ∈ rf_WS) (hf : rf_Fit (cells + 1) (slots + rf_fn ci) K) (hd : decode cc pc = .ok (.new idx, 3))
    (k : ∀ (q : Nat) (cl : ClassId), rf_Ctx o cc nL d (sh') (rf_upK K sh.1 q cl) → rf_V nL (sh') (rf_upK K sh.1 q cl) (cells + 1) (slots + rf_fn ci) (pc + 3) (lv, .ref sh.1 :: st, M)) : rf_V nL sh K cells slots pc (lv, st, M) := by
  obtain ⟨p, l, e, R, s, m, args, below, meth, c, D, ad, cad, A, Q⟩ := K
  have C0 := C
  obtain ⟨hx, hb, hml, hown, hts, hK, hT0, hA, hlk, hXs, hdf, hdl, hwf⟩ := C
  intro H locs ls hPw hD hS hl
  refine va_new (ci := ci) (fs := (List.range (rf_fn ci)).map (fun i => rf_cv ad (rf_rd M (rf_ft ci i) sh.1 i))) (C := rf_R ci) (T := rf_T ci) (N := rf_fn ci) hx hb hts (rf_wsin ci hci) (rf_ft ci) (rf_tyok ci hci) hown (hts _ h1) (hts _ h2) (hts _ h3) hK hPw hD hS (fun q hq => (hA q).mpr (Or.inr hq)) (rf_cl ci hci) ?_ hf.1 hf.2 hd (fun q H1 g1 g2 g3 => ?_)
  · intro j hj
    have hj' : rf_okt (rf_ft ci j) = true := List.all_eq_true.mp hty j (List.mem_range.mpr hj)
    show _ = List.getD _ _ _
    rw [List.getD_eq_getElem?_getD, List.getElem?_map, List.getElem?_range hj]
    exact rf_dv hF hj'
  · have hlast : (rf_ws ad cad sh M ++ [(q, (.inr (ci, (List.range (rf_fn ci)).map (fun i => rf_cv ad (rf_rd M (rf_ft ci i) sh.1 i))) : va_E))])[sh.1]? = some (q, .inr (ci, (List.range (rf_fn ci)).map (fun i => rf_cv ad (rf_rd M (rf_ft ci i) sh.1 i)))) := by
      rw [List.getElem?_append_right (by rw [rf_ws_len]; exact Nat.le_refl sh.1), rf_ws_len]
      show [_][sh.1 - sh.1]? = _
      rw [Nat.sub_self]
      rfl
    have hAq : A q := g2.2 sh.1 _ hlast
    have hqn : s.heap.size ≤ q := by
      rcases (hA q).mp hAq with ⟨k0, hk0, hqk⟩ | h
      · exfalso
        have h4 := g2.1 k0 sh.1 (ad k0, rf_cell ad cad M k0 ((sh.2 k0).getD (.inr 0))) _ (by rw [List.getElem?_append_left (by rw [rf_ws_len]; exact hk0)]; exact rf_ws_lt hk0) hlast hqk.symm
        have hk0 : k0 < sh.1 := hk0
        omega
      · exact h
    have C1 := rf_ctx_gup (hX := hX) (cl := cad sh.1) (q := q) C0 hn (fun t N h => by rw [hs] at h; cases h) ⟨hAq, hqn⟩
    have hk := k q (cad sh.1) C1
    have e1 : rf_ws ad cad sh M ++ [(q, (.inr (ci, (List.range (rf_fn ci)).map (fun i => rf_cv ad (rf_rd M (rf_ft ci i) sh.1 i))) : va_E))] = rf_ws (fun k => if k = sh.1 then q else ad k) (fun k => if k = sh.1 then cad sh.1 else cad k) (sh') M := by
      refine rf_ws_gnew hX hF ?_
      rw [rf_cell_ad (ad' := fun k => if k = sh.1 then q else ad k) (cad' := fun k => if k = sh.1 then cad sh.1 else cad k) (ad := ad) (cad := cad) (M := M) (k := sh.1) cS (fun i j hj => absurd ((hF.2 sh.1 i (Nat.le_refl sh.1)).2.2.symm.trans hj) (by simp)) (if_pos rfl), hs]
      rfl
    rw [e1] at g1 g2
    have h9 := hk H1 locs ls g1 g2 g3 (by rw [rf_lc_up hlv]; exact hl)
    have e2 : ((Value.ref sh.1 :: st).map (rf_cv (fun k => if k = sh.1 then q else ad k))) = Value.ref q :: st.map (rf_cv ad) := by
      rw [List.map_cons, rf_st_up hst]
      simp [rf_cv]
    rw [e2] at h9
    exact h9
theorem rf_gnewa (C : rf_Ctx o cc nL d sh K) (hF : rf_F sh.1 M) (hn : sh.1 < 1000000) (t : FieldType) (N : Nat) (hX : rf_xt sh sh' cS) (hs : cS = .inl (t, N)) (atype : ArrayType) (hat : newarray.typeOf atype = t) (htk : t = .int ∨ t = .long ∨ t = .boolean ∨ t = .byte) {x : Int32} (hx0 : ¬ x < 0) (hxN : x.toNatClampNeg = N) (hbig : N * componentBytes t ≤ 536870912) (hlv : lv.all (fun x => rf_nr sh.1 x.2) = true) (hst : st.all (rf_nr sh.1) = true) (h1 : Cond.arrayClass t ∈ rf_WS) (hf : rf_Fit (cells + 1) (slots + N) K) (hd : decode cc pc = .ok (.newarray atype, 2))
    (k : ∀ (q : Nat) (cl : ClassId), rf_Ctx o cc nL d (sh') (rf_upK K sh.1 q cl) → rf_V nL (sh') (rf_upK K sh.1 q cl) (cells + 1) (slots + N) (pc + 2) (lv, .ref sh.1 :: st, M)) : rf_V nL sh K cells slots pc (lv, .int x :: st, M) := by
  obtain ⟨p, l, e, R, s, m, args, below, meth, c, D, ad, cad, A, Q⟩ := K
  have C0 := C
  obtain ⟨hx, hb, hml, hown, hts, hK, hT0, hA, hlk, hXs, hdf, hdl, hwf⟩ := C
  intro H locs ls hPw hD hS hl
  have z1 : M.1 sh.1 = fun _ => 0 := funext fun i => (hF.2 sh.1 i (Nat.le_refl sh.1)).1
  have z2 : M.2.1 sh.1 = fun _ => 0 := funext fun i => (hF.2 sh.1 i (Nat.le_refl sh.1)).2.1
  refine va_newa (atype := atype) (ty := t) (a0 := (N, rf_row ad M sh.1 t)) hx hb (by rw [hat]; exact hts _ h1) hat hK hPw hD hS (fun q hq => (hA q).mpr (Or.inr hq)) ?_ hx0 hxN hbig hf.1 hf.2 hd (fun q cA H1 gK g1 g2 g3 => ?_)
  · intro cA
    rcases htk with rfl | rfl | rfl | rfl <;> simp only [rf_row, rf_kd, z1, z2] <;> rfl
  · have hlast : (rf_ws ad cad sh M ++ [(q, (.inl (cA, N, rf_row ad M sh.1 t) : va_E))])[sh.1]? = some (q, .inl (cA, N, rf_row ad M sh.1 t)) := by
      rw [List.getElem?_append_right (by rw [rf_ws_len]; exact Nat.le_refl sh.1), rf_ws_len]
      show [_][sh.1 - sh.1]? = _
      rw [Nat.sub_self]
      rfl
    have hAq : A q := g2.2 sh.1 _ hlast
    have hqn : s.heap.size ≤ q := by
      rcases (hA q).mp hAq with ⟨k0, hk0, hqk⟩ | h
      · exfalso
        have h4 := g2.1 k0 sh.1 (ad k0, rf_cell ad cad M k0 ((sh.2 k0).getD (.inr 0))) _ (by rw [List.getElem?_append_left (by rw [rf_ws_len]; exact hk0)]; exact rf_ws_lt hk0) hlast hqk.symm
        have hk0 : k0 < sh.1 := hk0
        omega
      · exact h
    have C1 := rf_ctx_gup (hX := hX) (cl := cA) (q := q) C0 hn (fun t' N' h => by rw [hs] at h; cases h; exact gK) ⟨hAq, hqn⟩
    have hk := k q cA C1
    have e1 : rf_ws ad cad sh M ++ [(q, (.inl (cA, N, rf_row ad M sh.1 t) : va_E))] = rf_ws (fun k => if k = sh.1 then q else ad k) (fun k => if k = sh.1 then cA else cad k) (sh') M := by
      refine rf_ws_gnew hX hF ?_
      rw [hs]
      simp only [rf_cell, if_pos]
      congr 3
      rcases htk with rfl | rfl | rfl | rfl <;> rfl
    rw [e1] at g1 g2
    have h9 := hk H1 locs ls g1 g2 g3 (by rw [rf_lc_up hlv]; exact hl)
    have e2 : ((Value.ref sh.1 :: st).map (rf_cv (fun k => if k = sh.1 then q else ad k))) = Value.ref q :: st.map (rf_cv ad) := by
      rw [List.map_cons, rf_st_up hst]
      simp [rf_cv]
    rw [e2] at h9
    exact h9
/-- what a walk keeps that may make cells -/
def rf_GI (o : Nat) (K : rf_K) : Prop := match K with
  | (_, _, _, _, _, _, _, _, meth, _, _, _, _, _, _) => o = 32 ∨ o = 14 ∨ meth.name = "<init>"
def rf_GB (o : Nat) (cc : ByteArray) (nL d mc ms n0 : Nat) (K0 : rf_K) (sh : rf_Sh) (K : rf_K) : Prop := rf_Ctx o cc nL d sh K ∧ rf_GI o K ∧ rf_AOk K ∧ rf_Rc K mc ms ∧ rf_Ext K0 K n0 ∧ n0 ≤ sh.1
variable {mc ms n0 : Nat} {K0 : rf_K}
theorem rf_GB_ext {K' : rf_K} (B : rf_GB o cc nL d mc ms n0 K0 sh K) (hX : rf_Ext K K' sh.1) (C : rf_Ctx o cc nL d sh' K') (hn : sh.1 ≤ sh'.1) : rf_GB o cc nL d mc ms n0 K0 sh' K' := by
  obtain ⟨-, h2, h3, h4, h5, h6⟩ := B
  have h5' := rf_Ext_trans h5 hX h6
  obtain ⟨ad', cad', rfl, hag⟩ := hX
  obtain ⟨p, l, e, R, s, m, args, below, meth, c, D, ad, cad, A, Q⟩ := K
  exact ⟨C, h2, rf_AO_to h3 (fun k hk => (hag k (Or.inr hk)).1) (va_S.rf (A := A)) (fun _ h => h) (Vm.Alike.refl _), h4, h5', by omega⟩
theorem rf_gfit {a b : Nat} (B : rf_GB o cc nL d mc ms n0 K0 sh K) (h1 : a ≤ mc) (h2 : b ≤ ms) : rf_Fit a b K := by
  have h4 := B.2.2.2.1
  obtain ⟨p, l, e, R, s, m, args, below, meth, c, D, ad, cad, A, Q⟩ := K
  exact ⟨Nat.le_trans h1 h4.1, Nat.le_trans h2 h4.2⟩
theorem rf_V_wide {S : rf_S} {c' s' : Nat} (h1 : cells ≤ c') (h2 : slots ≤ s') (k : rf_V nL sh K c' s' pc S) : rf_V nL sh K cells slots pc S := by
  obtain ⟨p, l, e, R, s, m, args, below, meth, c, D, ad, cad, A, Q⟩ := K
  intro H locs ls hPw hD hS hl
  exact W.widen h1 h2 (k H locs ls hPw hD hS hl)
theorem rf_cell_row {ad : Nat → Nat} {cad : Nat → ClassId} {M M' : rf_M} {k : Nat} (e1 : M'.1 k = M.1 k) (e2 : M'.2.1 k = M.2.1 k) (e3 : M'.2.2 k = M.2.2 k) (c : rf_C) : rf_cell ad cad M' k c = rf_cell ad cad M k c := by
  cases c with
  | inl q => simp only [rf_cell, rf_row, e1, e2, e3]
  | inr ci => simp only [rf_cell, rf_rd, e1, e2, e3]
/-- memories that agree on the cells -/
def rf_Ag (n : Nat) (M M' : rf_M) : Prop := ∀ k, k < n → ∀ i, M'.1 k i = M.1 k i ∧ M'.2.1 k i = M.2.1 k i ∧ M'.2.2 k i = M.2.2 k i
theorem rf_ws_ag {ad : Nat → Nat} {cad : Nat → ClassId} {M M' : rf_M} (h : rf_Ag sh.1 M M') : rf_ws ad cad sh M' = rf_ws ad cad sh M := by
  unfold rf_ws
  apply List.map_congr_left
  intro k hk
  have hk : k < sh.1 := List.mem_range.mp hk
  rw [rf_cell_row (funext fun i => (h k hk i).1) (funext fun i => (h k hk i).2.1) (funext fun i => (h k hk i).2.2)]
theorem rf_V_ag {M' : rf_M} (h : rf_Ag sh.1 M M') (k : rf_V nL sh K cells slots pc (lv, st, M')) : rf_V nL sh K cells slots pc (lv, st, M) := by
  obtain ⟨p, l, e, R, s, m, args, below, meth, c, D, ad, cad, A, Q⟩ := K
  intro H locs ls hPw hD hS hl
  have e : rf_ws ad cad sh M' = rf_ws ad cad sh M := rf_ws_ag h
  exact k H locs ls (by show va_P D vwCl (rf_ws ad cad sh M') H; rw [e]; exact hPw) (by show va_D A (rf_ws ad cad sh M'); rw [e]; exact hD) hS hl
theorem rf_gbnew (B : rf_GB o cc nL d mc ms n0 K0 sh K) (hF : rf_F sh.1 M) (hn : sh.1 < 1000000) (ci : Nat) (hX : rf_xt sh sh' cS) (hs : cS = .inr ci) (hci : ci < 15) (hty : (List.range (rf_fn ci)).all (fun j => rf_okt (rf_ft ci j)) = true) (hlv : lv.all (fun x => rf_nr sh.1 x.2) = true) (hst : st.all (rf_nr sh.1) = true) {idx : Nat} (h1 : Cond.classLink (rf_own o) idx (rf_R ci) ∈ rf_WS) (h2 : Cond.instantiable (rf_R ci) (rf_fn ci) ∈ rf_WS) (h3 : Cond.initialized (rf_R ci) ∈ rf_WS) (hc : cells + 1 ≤ mc) (hsl : slots + rf_fn ci ≤ ms) (hd : decode cc pc = .ok (.new idx, 3))
    (k : ∀ K', rf_GB o cc nL d mc ms n0 K0 sh' K' → rf_F sh'.1 M → rf_V nL sh' K' (cells + 1) (slots + rf_fn ci) (pc + 3) (lv, .ref sh.1 :: st, M)) : rf_V nL sh K cells slots pc (lv, st, M) :=
  rf_gnew B.1 hF hn ci hX hs hci hty hlv hst h1 h2 h3 (rf_gfit B hc hsl) hd (fun q cl C => k _ (rf_GB_ext B (rf_Ext_up hn) C (by rw [hX.1]; omega)) (by rw [hX.1]; exact rf_F_succ hF))
theorem rf_gbnewa (B : rf_GB o cc nL d mc ms n0 K0 sh K) (hF : rf_F sh.1 M) (hn : sh.1 < 1000000) (t : FieldType) (N : Nat) (hX : rf_xt sh sh' cS) (hs : cS = .inl (t, N)) (atype : ArrayType) (hat : newarray.typeOf atype = t) (htk : t = .int ∨ t = .long ∨ t = .boolean ∨ t = .byte) {x : Int32} (hx0 : ¬ x < 0) (hxN : x.toNatClampNeg = N) (hbig : N * componentBytes t ≤ 536870912) (hlv : lv.all (fun x => rf_nr sh.1 x.2) = true) (hst : st.all (rf_nr sh.1) = true) (h1 : Cond.arrayClass t ∈ rf_WS) (hc : cells + 1 ≤ mc) (hsl : slots + N ≤ ms) (hd : decode cc pc = .ok (.newarray atype, 2))
    (k : ∀ K', rf_GB o cc nL d mc ms n0 K0 sh' K' → rf_F sh'.1 M → rf_V nL sh' K' (cells + 1) (slots + N) (pc + 2) (lv, .ref sh.1 :: st, M)) : rf_V nL sh K cells slots pc (lv, .int x :: st, M) :=
  rf_gnewa B.1 hF hn t N hX hs atype hat htk hx0 hxN hbig hlv hst h1 (rf_gfit B hc hsl) hd (fun q cl C => k _ (rf_GB_ext B (rf_Ext_up hn) C (by rw [hX.1]; omega)) (by rw [hX.1]; exact rf_F_succ hF))
/-- a field of references is set: no final one -/
theorem rf_gputn (C : rf_Ctx o cc nL d sh K) (ci f : Nat) {a j : Nat} (ha : rf_at sh a = some (.inr ci)) (hk : rf_kd (rf_ft ci f) = 2) (hfin : (rf_T ci f).2.2.2 = false) {idx : Nat} (hlnk : (rf_FL o).any (fun e => e.1 == idx && e.2.1 == ci && e.2.2.1 == f) = true) (hd : decode cc pc = .ok (.putfield idx, 3))
    (k : rf_V nL sh K cells slots (pc + 3) (lv, st, rf_uR M a f (some j))) : rf_V nL sh K cells slots pc (lv, .ref j :: .ref a :: st, M) := by
  obtain ⟨p, l, e, R, s, m, args, below, meth, c, D, ad, cad, A, Q⟩ := K
  obtain ⟨hx, hb, hml, hown, hts, hK, hT0, hA, hlk, hXs, hdf, hdl, hwf⟩ := C
  intro H locs ls hPw hD hS hl
  obtain ⟨h15, hf, hlk0⟩ := rf_FL_of hlnk
  have hnar : narrow (rf_ft ci f) (.ref (ad j)) = .ref (ad j) := by cases rf_ft ci f <;> rfl
  have hfit : fits (rf_ft ci f) (.ref (ad j)) = true := by
    cases h : rf_ft ci f <;> rw [h] at hk <;> first | rfl | (exact absurd hk (by decide))
  have e : (rf_ws ad cad sh M).set a (ad a, .inr (ci, ((List.range (rf_fn ci)).map (fun i => rf_cv ad (rf_rd M (rf_ft ci i) a i))).set f (.ref (ad j)))) = rf_ws ad cad sh (rf_uR M a f (some j)) := rf_ws_set hwf ha (rf_cell_put (v := .ref (ad j)) (by rw [rf_rd_uR hk]; rfl) (fun i hi => rf_rd_uR_ne hi)) rf_uR_ne
  exact va_put (C := rf_R ci) (T := rf_T ci) (N := rf_fn ci) (ty := rf_ft ci f) hx hb hts (rf_wsin ci h15) (rf_ft ci) (rf_tyok ci h15) (rf_nmok ci h15) hown hK hPw hD hS a (rf_ws_at hwf ha) (rf_cl ci h15) f hf (hts _ hlk0) (fun _ h => h) hfin (rf_tyok ci h15 f hf) (v := .ref (ad j)) hnar hfit (by simpa using hf) hd (fun H1 locs1 g1 g2 g3 => k H1 locs1 ls (e ▸ g1) (e ▸ g2) g3 hl)
/-- a final field, in a constructor -/
theorem rf_gputf (B : rf_GB o cc nL d mc ms n0 K0 sh K) (ho : o ≠ 32 ∧ o ≠ 14) (ci f : Nat) {a j : Nat} (ha : rf_at sh a = some (.inr ci)) (hk : rf_kd (rf_ft ci f) = 2) (hfin : (rf_T ci f).2.2.2 = true) (hown0 : (rf_T ci f).1 = rf_own o) {idx : Nat} (hlnk : (rf_FL o).any (fun e => e.1 == idx && e.2.1 == ci && e.2.2.1 == f) = true) (hd : decode cc pc = .ok (.putfield idx, 3))
    (k : rf_V nL sh K cells slots (pc + 3) (lv, st, rf_uR M a f (some j))) : rf_V nL sh K cells slots pc (lv, .ref j :: .ref a :: st, M) := by
  obtain ⟨C, hin, -⟩ := B
  obtain ⟨p, l, e, R, s, m, args, below, meth, c, D, ad, cad, A, Q⟩ := K
  obtain ⟨hx, hb, hml, hown, hts, hK, hT0, hA, hlk, hXs, hdf, hdl, hwf⟩ := C
  intro H locs ls hPw hD hS hl
  obtain ⟨h15, hf, hlk0⟩ := rf_FL_of hlnk
  have hnar : narrow (rf_ft ci f) (.ref (ad j)) = .ref (ad j) := by cases rf_ft ci f <;> rfl
  have hfit : fits (rf_ft ci f) (.ref (ad j)) = true := by
    cases h : rf_ft ci f <;> rw [h] at hk <;> first | rfl | (exact absurd hk (by decide))
  have e : (rf_ws ad cad sh M).set a (ad a, .inr (ci, ((List.range (rf_fn ci)).map (fun i => rf_cv ad (rf_rd M (rf_ft ci i) a i))).set f (.ref (ad j)))) = rf_ws ad cad sh (rf_uR M a f (some j)) := rf_ws_set hwf ha (rf_cell_put (v := .ref (ad j)) (by rw [rf_rd_uR hk]; rfl) (fun i hi => rf_rd_uR_ne hi)) rf_uR_ne
  have hin : meth.name = "<init>" := by
    rcases hin with h | h | h
    · exact absurd h ho.1
    · exact absurd h ho.2
    · exact h
  exact va_putF (C := rf_R ci) (T := rf_T ci) (N := rf_fn ci) (ty := rf_ft ci f) hx hb hts (rf_wsin ci h15) (rf_ft ci) (rf_tyok ci h15) (rf_nmok ci h15) hown hK hPw hD hS a (rf_ws_at hwf ha) (rf_cl ci h15) f hf (hts _ hlk0) (fun _ h => h) hfin hin hown0 (rf_tyok ci h15 f hf) (v := .ref (ad j)) hnar hfit (by simpa using hf) hd (fun H1 locs1 g1 g2 g3 => k H1 locs1 ls (e ▸ g1) (e ▸ g2) g3 hl)
/-- a reference into an array -/
theorem rf_gaast (C : rf_Ctx o cc nL d sh K) (ci : Nat) {a j N : Nat} {x : Int32} (ha : rf_at sh a = some (.inl (.object (rf_R ci), N))) (hj : rf_at sh j = some (.inr ci)) (hci : ci < 15) (hin0 : vp_in x N) (hd : decode cc pc = .ok (.aastore, 1))
    (k : rf_V nL sh K cells slots (pc + 1) (lv, st, rf_uR M a x.toNatClampNeg (some j))) : rf_V nL sh K cells slots pc (lv, .ref j :: .int x :: .ref a :: st, M) := by
  obtain ⟨p, l, e, R, s, m, args, below, meth, c, D, ad, cad, A, Q⟩ := K
  obtain ⟨hx, hb, hml, hown, hts, hK, hT0, hA, hlk, hXs, hdf, hdl, hwf⟩ := C
  intro H locs ls hPw hD hS hl
  have e : (rf_ws ad cad sh M).set a (ad a, .inl (cad a, N, .inr (.inr (.inr (.inr (va_up (fun i => (M.2.2 a i).map ad) x.toNatClampNeg (some (ad j)))))))) = rf_ws ad cad sh (rf_uR M a x.toNatClampNeg (some j)) := rf_ws_set hwf ha (by
    simp only [rf_cell, rf_row, rf_kd]
    congr 8
    funext i
    by_cases hi : i = x.toNatClampNeg <;> simp [rf_uR, va_up, hi]) rf_uR_ne
  exact va_astq (r := (rf_R ci, rf_T ci, rf_fn ci)) hx hb (hT0 a _ _ ha) hPw hD hS a 0 j ci (rf_ws_at hwf ha) rfl (rf_ws_at hwf hj) (rf_cl ci hci) hin0 hd (fun H1 locs1 g1 g2 g3 => k H1 locs1 ls (e ▸ g1) (e ▸ g2) g3 hl)
-- contracts
/-- an answer that holds no reference -/
def rf_plain (v : Option Value) : Bool := match v with
  | some (.ref _) => false
  | _ => true
theorem rf_plain_cv {v : Option Value} (h : rf_plain v = true) (ad : Nat → Nat) : v.map (rf_cv ad) = v := by
  cases v with
  | none => rfl
  | some x => cases x <;> first | rfl | (exact absurd h (by simp [rf_plain]))
def rf_GQ (D : va_G) (ad : Nat → Nat) (cad : Nat → ClassId) (n : Nat) (sh' : rf_Sh) (v : Option Value) (M' : rf_M) (A : Nat → Prop) : Array Value → State → Outcome → State → Prop := fun _ st oc t => oc = .returned v ∧ (∃ ad' cad', (∀ k, k < n ∨ 1000000 ≤ k → ad' k = ad k ∧ cad' k = cad k) ∧ va_P D vwCl (rf_ws ad' cad' sh' M') t.heap ∧ (∀ k ty N, rf_at sh' k = some (.inl (ty, N)) → va_K D vwCl [(cad' k, ty)] t) ∧ va_D A (rf_ws ad' cad' sh' M') ∧ ∀ q, A q ↔ rf_A ad' sh'.1 st.heap.size q) ∧ va_F A st t ∧ rf_Wf sh'
def rf_EndG (ret : Option FieldType) (K : rf_K) (n : Nat) (sh' : rf_Sh) (v : Option Value) (M' : rf_M) (mc ms : Nat) : Prop := match K with
  | (_, _, _, _, s, _, args, below, meth, _, D, ad, cad, A, Q) => meth.sig.returnType = ret ∧ Q = MQ below (rf_GQ D ad cad n sh' v M' A) args s mc ms A
theorem rf_vretG (B : rf_GB o cc nL d mc ms n0 K0 sh K) (hcl : cells ≤ mc) (hsl : slots ≤ ms) (hE : rf_EndG none K0 n0 sh none M mc ms) (hd : decode cc pc = .ok (.return_, 1)) : rf_V nL sh K cells slots pc (lv, [], M) := by
  refine rf_V_wide hcl hsl ?_
  obtain ⟨C, -, -, -, hX, -⟩ := B
  obtain ⟨ad1, cad1, rfl, hag⟩ := hX
  obtain ⟨p, l, e, R, s, m, args, below, meth, c, D, ad, cad, A, Q⟩ := K0
  obtain ⟨hx, hb, hml, hown, hts, hK, hT0, hA, hlk, hXs, hdf, hdl, hwf⟩ := C
  obtain ⟨hr, rfl⟩ := hE
  intro H locs ls hPw hD hS hl
  exact W.vret hx hb hr (fun t ht hW => ⟨rfl, ⟨ad1, cad1, hag, by rw [ht]; exact hPw, fun k ty N h => va_K.moved hW.alike (hT0 k ty N h), hD, hA⟩, hS.F ht, hwf⟩) hS.2.2 hd hlk
theorem rf_iretG (B : rf_GB o cc nL d mc ms n0 K0 sh K) (hcl : cells ≤ mc) (hsl : slots ≤ ms) {x : Int32} (hE : rf_EndG (some .int) K0 n0 sh (some (.int x)) M mc ms) (hd : decode cc pc = .ok (.ireturn, 1)) : rf_V nL sh K cells slots pc (lv, [.int x], M) := by
  refine rf_V_wide hcl hsl ?_
  obtain ⟨C, -, -, -, hX, -⟩ := B
  obtain ⟨ad1, cad1, rfl, hag⟩ := hX
  obtain ⟨p, l, e, R, s, m, args, below, meth, c, D, ad, cad, A, Q⟩ := K0
  obtain ⟨hx, hb, hml, hown, hts, hK, hT0, hA, hlk, hXs, hdf, hdl, hwf⟩ := C
  obtain ⟨hr, rfl⟩ := hE
  intro H locs ls hPw hD hS hl
  exact W.iret hx hb hr (fun t ht hW => ⟨rfl, ⟨ad1, cad1, hag, by rw [ht]; exact hPw, fun k ty N h => va_K.moved hW.alike (hT0 k ty N h), hD, hA⟩, hS.F ht, hwf⟩) hS.2.2 hd hlk
theorem rf_zretG (B : rf_GB o cc nL d mc ms n0 K0 sh K) (hcl : cells ≤ mc) (hsl : slots ≤ ms) {x : Int32} (hE : rf_EndG (some .boolean) K0 n0 sh (some (.int x)) M mc ms) (h01 : x = 0 ∨ x = 1) (hd : decode cc pc = .ok (.ireturn, 1)) : rf_V nL sh K cells slots pc (lv, [.int x], M) := by
  refine rf_V_wide hcl hsl ?_
  obtain ⟨C, -, -, -, hX, -⟩ := B
  obtain ⟨ad1, cad1, rfl, hag⟩ := hX
  obtain ⟨p, l, e, R, s, m, args, below, meth, c, D, ad, cad, A, Q⟩ := K0
  obtain ⟨hx, hb, hml, hown, hts, hK, hT0, hA, hlk, hXs, hdf, hdl, hwf⟩ := C
  obtain ⟨hr, rfl⟩ := hE
  intro H locs ls hPw hD hS hl
  exact W.zret hx hb hr (by rcases h01 with rfl | rfl <;> rfl) (fun t ht hW => ⟨rfl, ⟨ad1, cad1, hag, by rw [ht]; exact hPw, fun k ty N h => va_K.moved hW.alike (hT0 k ty N h), hD, hA⟩, hS.F ht, hwf⟩) hS.2.2 hd hlk
def rf_Pre (D : va_G) (ad : Nat → Nat) (cad : Nat → ClassId) (sh : rf_Sh) (M : rf_M) (sz : Nat) (U : State) : Prop := rf_In D ad cad sh M sz U ∧ rf_AO ad (rf_A ad sh.1 sz) U U.heap
def rf_GConH (hw : Cond) (J : rf_J) (d mc ms : Nat) (sh : rf_Sh) (args : List Value) (M : rf_M) (v : Option Value) (sh' : rf_Sh) (M' : rf_M) : Prop := ∀ (l : Launch) (D : va_G) (ad : Nat → Nat) (cad : Nat → ClassId) (sz : Nat), Met l J.2.1 (hw :: rf_WS) (rf_rm d mc ms) (va_Pc (args.map (rf_cv ad)) (rf_Pre D ad cad sh M sz)) (rf_GQ D ad cad sh.1 sh' v M' (rf_A ad sh.1 sz)) mc ms (rf_A ad sh.1 sz)
abbrev rf_GCon (J : rf_J) := rf_GConH (.code J.2.1 J.2.2.1 J.2.2.2.1 J.2.2.2.2) J
abbrev rf_GConW (J : rf_J) (hh : List (Nat × Nat × Nat × Nat)) := rf_GConH (.codeWith J.2.1 J.2.2.1 J.2.2.2.1 J.2.2.2.2 hh) J
theorem rf_gcon (J : rf_J) (d mc ms : Nat) {args : List Value} {v : Option Value} {M' : rf_M} (hJ : plainFor J.2.1 = true ∧ J.2.1.cls = rf_own J.1 ∧ (J.1 = 14 ∨ J.2.1.name = "<init>") ∧ (lg_sl args).length ≤ J.2.2.2.1)
    (h : ∀ K0 : rf_K, rf_GB J.1 J.2.2.1 J.2.2.2.1 d mc ms sh.1 K0 sh K0 → rf_EndG J.2.2.2.2 K0 sh.1 sh' v M' mc ms → rf_V J.2.2.2.1 sh K0 0 0 0 (lv_args 0 args, [], M)) : rf_GCon J d mc ms sh args M v sh' M' := by
  intro l D ad cad sz
  obtain ⟨o, y, cc, nL, ret⟩ := J
  obtain ⟨hpl, hcls, hnm, hlen⟩ := hJ
  refine va_MetF (cc := cc) (maxL := nL) (ret := ret) hpl rfl ?_
  intro p e s m args' below meth c s₁ B hml hv
  obtain ⟨rfl, ⟨hsz, hPw, hK, hT, hD0, hX, hwf⟩, hAO⟩ := hv
  have hts := atoms_spec (ws := .code y cc nL ret :: rf_WS) B.pre
  have hown : s.vm.findClass y.cls = some m.cls := findClass_of_methodNamed B.named
  have hin : o = 32 ∨ o = 14 ∨ meth.name = "<init>" := by
    rcases hnm with h | h
    · exact Or.inr (Or.inl h)
    · exact Or.inr (Or.inr (by rw [(name_of_methodNamed B.named B.method).1]; exact h))
  subst hsz
  have hA : ∀ q, rf_A ad sh.1 s.heap.size q ↔ rf_A ad sh.1 s.heap.size q := fun _ => Iff.rfl
  have hV := h (p, l, e, rf_rm d mc ms, s, m, _, below, meth, c, D, ad, cad, rf_A ad sh.1 s.heap.size, _)
    ⟨⟨B.exec, B.bytes, hml, by rw [← hcls]; exact hown, fun w hw => hts w (List.mem_cons_of_mem _ hw), hK, hT, hA, B.notSynchronized, hX, Nat.le_refl d, Nat.le_refl _, hwf⟩, hin, hAO, ⟨Nat.le_refl _, Nat.le_refl _⟩, rf_Ext_refl _ _, Nat.le_refl _⟩ ⟨B.returns, rfl⟩
  have hl := lv_entry (args.map (rf_cv ad)) (n := nL) (by rw [rf_sl_len]; exact hlen)
  rw [rf_lc_args] at hl
  rw [lg_entry_eq]
  exact hV s.heap [] _ hPw (rf_D_A hD0 hA) va_S.rf hl
def rf_Tab (K : rf_K) (hh : List (Nat × Nat × Nat × Nat)) : Prop := match K with
  | (_, _, _, _, _, _, _, _, _, c, _, _, _, _, _) => c.exceptionTable.toList = tableOf hh
theorem rf_gconW (J : rf_J) (hh : List (Nat × Nat × Nat × Nat)) (d mc ms : Nat) {args : List Value} {v : Option Value} {M' : rf_M} (hJ : plainName J.2.1.cls = true ∧ J.2.1.cls = rf_own J.1 ∧ (J.1 = 32 ∨ J.1 = 14) ∧ (lg_sl args).length ≤ J.2.2.2.1)
    (h : ∀ K0 : rf_K, rf_GB J.1 J.2.2.1 J.2.2.2.1 d mc ms sh.1 K0 sh K0 → rf_EndG J.2.2.2.2 K0 sh.1 sh' v M' mc ms → rf_Tab K0 hh → rf_V J.2.2.2.1 sh K0 0 0 0 (lv_args 0 args, [], M)) : rf_GConW J hh d mc ms sh args M v sh' M' := by
  intro l D ad cad sz
  obtain ⟨o, y, cc, nL, ret⟩ := J
  obtain ⟨hpl, hcls, hnm, hlen⟩ := hJ
  refine va_MetW (cc := cc) (maxL := nL) (ret := ret) (hh := hh) hpl rfl ?_
  intro p e s m args' below meth c s₁ B hml hv
  obtain ⟨rfl, ⟨hsz, hPw, hK, hT, hD0, hX, hwf⟩, hAO⟩ := hv
  have hts := atoms_spec (ws := .codeWith y cc nL ret hh :: rf_WS) B.pre
  have htab := vq_table (x := y) B (hts _ List.mem_cons_self)
  have hown : s.vm.findClass y.cls = some m.cls := findClass_of_methodNamed B.named
  have hin : o = 32 ∨ o = 14 ∨ meth.name = "<init>" := by
    rcases hnm with h | h
    · exact Or.inl h
    · exact Or.inr (Or.inl h)
  subst hsz
  have hA : ∀ q, rf_A ad sh.1 s.heap.size q ↔ rf_A ad sh.1 s.heap.size q := fun _ => Iff.rfl
  have hV := h (p, l, e, rf_rm d mc ms, s, m, _, below, meth, c, D, ad, cad, rf_A ad sh.1 s.heap.size, _)
    ⟨⟨B.exec, B.bytes, hml, by rw [← hcls]; exact hown, fun w hw => hts w (List.mem_cons_of_mem _ hw), hK, hT, hA, B.notSynchronized, hX, Nat.le_refl d, Nat.le_refl _, hwf⟩, hin, hAO, ⟨Nat.le_refl _, Nat.le_refl _⟩, rf_Ext_refl _ _, Nat.le_refl _⟩ ⟨B.returns, rfl⟩ htab
  have hl := lv_entry (args.map (rf_cv ad)) (n := nL) (by rw [rf_sl_len]; exact hlen)
  rw [rf_lc_args] at hl
  rw [lg_entry_eq]
  exact hV s.heap [] _ hPw (rf_D_A hD0 hA) va_S.rf hl
/-- behind such a call -/
theorem rf_afterG {p : Program} {l : Launch} {e : Env} {R : Room} {s : State} {m : MethodId} {args : Array Value} {below : List Frame} {meth : Method} {c : Code} {D : va_G} {ad : Nat → Nat} {cad : Nat → ClassId} {A : Nat → Prop} {Q : State → Prop} {H : Heap} {locs : List Loc} {ls : Array Slot} {a0 : Array Value} {rest st0 : List Value} {v : Option Value} {M' : rf_M} {mc' ms' : Nat}
    (B : rf_GB o cc nL d mc ms n0 K0 sh (p, l, e, R, s, m, args, below, meth, c, D, ad, cad, A, Q)) (hnn : sh.1 ≤ sh'.1) (hpl : rf_plain v = true) (hS : va_S A s.heap H locs) (hl : lv_has ls nL (rf_lc ad lv)) (hlv : lv.all (fun x => rf_br sh.1 x.2) = true) (hrs : rest.all (rf_br sh.1) = true)
    (hr : va_Run p l e R s m args below meth c H locs cells slots mc' ms' (F0 m pc ls st0) (rest.map (rf_cv ad)) (rf_GQ D ad cad sh.1 sh' v M' (rf_A ad sh.1 H.size) a0) (rf_A ad sh.1 H.size))
    (k : ∀ K', rf_GB o cc nL d mc ms n0 K0 sh' K' → rf_V nL sh' K' (cells + mc') (slots + ms') (pc + 3) (lv, v.toList ++ rest, M')) : W p l e R s m args below meth c H locs cells slots Q (F0 m pc ls st0) := by
  have C := B.1
  obtain ⟨hx, hb, hml, hown, hts, hK, hT0, hA, hlk, hXs, hdf, hdl, hwf⟩ := C
  have hsub : ∀ q, rf_A ad sh.1 H.size q → A q := by
    intro q hq
    refine (hA q).mpr ?_
    rcases hq with h | h
    · exact Or.inl h
    · exact Or.inr (Nat.le_trans hS.1 h)
  intro T hT X
  obtain ⟨v', st₀, t, T', L, h0, X', hL, e1, e2, ⟨hv, ⟨ad', cad', hag, hp, hty, hD1, hA1⟩, ⟨hz, hk⟩, hwf'⟩, stp⟩ := hr T hT X
  cases hv
  rw [h0] at hz hk hA1
  have hvm : s.vm.Alike t.vm := by rw [← e2]; exact X'.warmed.alike
  have hS' : va_S A s.heap T'.heap (locs ++ L) := by
    refine ⟨by rw [e1]; exact Nat.le_trans hS.1 hz, fun q h1 h2 => ?_, fun x hx => ?_⟩
    · rw [e1, hk q (Nat.lt_of_lt_of_le h1 hS.1) (fun h => h2 (hsub q h))]
      exact hS.2.1 q h1 h2
    · rcases List.mem_append.mp hx with h | h
      · exact hS.2.2 x h
      · exact hsub _ (hL x h)
  have hext : rf_Ext (p, l, e, R, s, m, args, below, meth, c, D, ad, cad, A, Q) (p, l, e, R, s, m, args, below, meth, c, D, ad', cad', A, Q) sh.1 := ⟨ad', cad', rfl, hag⟩
  have C' : rf_Ctx o cc nL d sh' (p, l, e, R, s, m, args, below, meth, c, D, ad', cad', A, Q) := by
    refine ⟨hx, hb, hml, hown, hts, hK, fun k ty N h => va_K.moved hvm.symm (hty k ty N h), ?_, hlk, rf_X_ad hXs (fun k hk => (hag k (Or.inr hk)).1), hdf, hdl, hwf'⟩
    intro q
    constructor
    · intro hq
      rcases (hA q).mp hq with ⟨k0, hk0, rfl⟩ | h
      · exact Or.inl ⟨k0, by omega, (hag k0 (Or.inl hk0)).1.symm⟩
      · exact Or.inr h
    · rintro (⟨k0, hk0, rfl⟩ | h)
      · exact hsub _ ((hA1 _).mpr (Or.inl ⟨k0, hk0, rfl⟩))
      · exact (hA q).mpr (Or.inr h)
  have hk9 := k _ (rf_GB_ext B hext C' hnn)
  have ecv : ∀ v, rf_br sh.1 v = true → rf_cv ad' v = rf_cv ad v := by
    intro v hv
    cases v with
    | ref j =>
      have hj : j < sh.1 ∨ 1000000 ≤ j := by
        simp only [rf_br, Bool.or_eq_true] at hv
        rcases hv with h | h
        · exact Or.inl (Nat.le_of_ble_eq_true h)
        · exact Or.inr (Nat.le_of_ble_eq_true h)
      simp [rf_cv, (hag j hj).1]
    | _ => rfl
  have el : rf_lc ad' lv = rf_lc ad lv := by
    unfold rf_lc
    apply List.map_congr_left
    intro x hx
    rw [ecv x.2 (List.all_eq_true.mp hlv x hx)]
  have er : (v.toList ++ rest).map (rf_cv ad') = v.toList ++ rest.map (rf_cv ad) := by
    rw [List.map_append]
    congr 1
    · cases v with
      | none => rfl
      | some x => cases x <;> first | rfl | (exact absurd hpl (by simp [rf_plain]))
    · apply List.map_congr_left
      intro x hx
      rw [ecv x (List.all_eq_true.mp hrs x hx)]
  have hw := hk9 T'.heap (locs ++ L) ls (by rw [e1]; exact hp) (hD1.weaken (fun _ _ _ h => hsub _ h)) hS' (by rw [el]; exact hl)
  obtain ⟨t2, a1, b1⟩ := hw T' rfl X'
  refine ⟨t2, stp t2 ?_, b1⟩
  rw [show ((lv, v.toList ++ rest, M') : rf_S).2.1 = v.toList ++ rest from rfl, er] at a1
  exact a1
theorem rf_Pre_blind {D : va_G} {ad : Nat → Nat} {cad : Nat → ClassId} {sz : Nat} {av : List Value} : FrameBlind (va_Pc av (rf_Pre D ad cad sh M sz)) := by
  intro a' U g mk q
  obtain ⟨q0, q1, q2⟩ := q
  exact ⟨q0, (rf_In_blind (av := av) a' U g mk ⟨q0, q1⟩).2, rf_AO_same (u := U) (U := U.calling g mk a') q2 (Vm.Alike.refl U.vm)⟩
theorem rf_Pre_at {p : Program} {l : Launch} {e : Env} {R : Room} {s : State} {m : MethodId} {args : Array Value} {below : List Frame} {meth : Method} {c : Code} {D : va_G} {ad : Nat → Nat} {cad : Nat → ClassId} {A : Nat → Prop} {Q : State → Prop} {H : Heap} {locs : List Loc} (B : rf_GB o cc nL d mc ms n0 K0 sh (p, l, e, R, s, m, args, below, meth, c, D, ad, cad, A, Q)) (hPw : va_P D vwCl (rf_ws ad cad sh M) H) (hD : va_D A (rf_ws ad cad sh M)) (hS : va_S A s.heap H locs) (av : List Value) : ∀ U : State, U.heap = H → s.WarmedH U.vm → va_Pc av (rf_Pre D ad cad sh M H.size) av.toArray U := by
  intro U hU hW
  have hA := B.1.2.2.2.2.2.2.2.1
  refine ⟨rfl, (rf_pre B.1 hPw hD hS av U hU hW).2, ?_⟩
  rw [hU]
  exact rf_AO_to B.2.2.1 (fun _ _ => rfl) hS (fun q hq => (hA q).mpr (hq.imp id (fun h => Nat.le_trans hS.1 h))) hW.alike
/-- a call of a method that may make cells -/
theorem rf_gcallv (B : rf_GB o cc nL d mc ms n0 K0 sh K) (J : rf_J) {dc mc' ms' na idx a ci : Nat} {As rest stk : List Value} {v : Option Value} {M' : rf_M} (hm : rf_mv J (rf_R ci) na) (hM : rf_GCon J dc mc' ms' sh (.ref a :: As) M v sh' M') (hdc : dc < d) (hnn : sh.1 ≤ sh'.1) (hpl : rf_plain v = true) (ha : rf_at sh a = some (.inr ci)) (hci : ci < 15) (hlink : Cond.methodLink (rf_own o) idx J.2.1 ∈ rf_WS) (hna : As.length = na) (hst : stk = As.reverse ++ .ref a :: rest) (hrest : (rest.map fun v => v.category).sum ≤ 8) (hlv : lv.all (fun x => rf_br sh.1 x.2) = true) (hrs : rest.all (rf_br sh.1) = true) (hc : cells + mc' ≤ mc) (hsl : slots + ms' ≤ ms) (hd : decode cc pc = .ok (.invokevirtual idx, 3))
    (k : ∀ K', rf_GB o cc nL d mc ms n0 K0 sh' K' → rf_V nL sh' K' (cells + mc') (slots + ms') (pc + 3) (lv, v.toList ++ rest, M')) : rf_V nL sh K cells slots pc (lv, stk, M) := by
  subst hst
  have hf := rf_gfit B hc hsl
  obtain ⟨p, l, e, R, s, m, args, below, meth, c, D, ad, cad, A, Q⟩ := K
  have C0 := B.1
  obtain ⟨hx, hb, hml, hown, hts, hK, hT0, hA, hlk, hXs, hdf, hdl, hwf⟩ := C0
  obtain ⟨yo, y, yc, yn, yr⟩ := J
  obtain ⟨⟨m1, m2, m3, m4⟩, m5, m6⟩ := hm
  intro H locs ls hPw hD hS hl
  have e0 : (As.reverse ++ Value.ref a :: rest).map (rf_cv ad) = (As.map (rf_cv ad)).reverse ++ Value.ref (ad a) :: rest.map (rf_cv ad) := by simp [rf_cv]
  have e1 : ((rest.map (rf_cv ad)).map fun v => v.category).sum ≤ 8 := by
    rw [List.map_map]
    simpa [Function.comp_def, rf_cat] using hrest
  have m6 : yn ≤ 45 := m6
  show W p l e R s m args below meth c H locs cells slots Q (F0 m pc ls ((As.reverse ++ Value.ref a :: rest).map (rf_cv ad)))
  rw [e0]
  have hw : CallW R s args (rf_own o) (rf_R ci) idx y yc yn yr (.code y yc yn yr :: rf_WS) (rf_rm dc mc' ms') mc' ms' na := ⟨callB_of na hts (rf_goodJ m4) rfl rfl rfl (hts _ m3) (hts _ hlink) m5 ⟨by show dc + 1 ≤ _; omega, by show 8 + (yn + 11) + 64 * dc ≤ _; omega⟩, hts _ m1, hts _ m2⟩
  exact rf_afterG (Q := Q) B hnn hpl hS hl hlv hrs (va_runV (As := As.map (rf_cv ad)) (rest := rest.map (rf_cv ad)) ⟨hx, hb, hml, hown, hts⟩ (hM l D ad cad H.size) hw ⟨rf_Pre_blind, va_recv hK hPw (rf_cl ci hci) (rf_ws_at hwf ha), rf_Pre_at B hPw hD hS _⟩ rfl (by simpa using hna) hl.1 rfl (lv_room e1) hd hf) k
/-- the same, of a method with an exception table -/
def rf_mw (J : rf_J) (hh : List (Nat × Nat × Nat × Nat)) (C : String) (n : Nat) : Prop := (Cond.instanceMethod J.2.1 ∈ rf_WS ∧ Cond.selects C J.2.1 J.2.1 ∈ rf_WS ∧ Cond.initialized J.2.1.cls ∈ rf_WS ∧ Cond.codeWith J.2.1 J.2.2.1 J.2.2.2.1 J.2.2.2.2 hh ∈ rf_WS) ∧ (J.2.1.cls ≠ "java/lang/invoke/MethodHandle" ∧ J.2.1.cls ≠ "java/lang/invoke/VarHandle" ∧ (parseMethodDescriptor J.2.1.desc).map (fun d => d.parameters.length) = some n) ∧ J.2.2.2.1 ≤ 45
theorem rf_gcallvW (B : rf_GB o cc nL d mc ms n0 K0 sh K) (J : rf_J) (hh : List (Nat × Nat × Nat × Nat)) {dc mc' ms' na idx a ci : Nat} {As rest stk : List Value} {v : Option Value} {M' : rf_M} (hm : rf_mw J hh (rf_R ci) na) (hM : rf_GConW J hh dc mc' ms' sh (.ref a :: As) M v sh' M') (hdc : dc < d) (hnn : sh.1 ≤ sh'.1) (hpl : rf_plain v = true) (ha : rf_at sh a = some (.inr ci)) (hci : ci < 15) (hlink : Cond.methodLink (rf_own o) idx J.2.1 ∈ rf_WS) (hna : As.length = na) (hst : stk = As.reverse ++ .ref a :: rest) (hrest : (rest.map fun v => v.category).sum ≤ 8) (hlv : lv.all (fun x => rf_br sh.1 x.2) = true) (hrs : rest.all (rf_br sh.1) = true) (hc : cells + mc' ≤ mc) (hsl : slots + ms' ≤ ms) (hd : decode cc pc = .ok (.invokevirtual idx, 3))
    (k : ∀ K', rf_GB o cc nL d mc ms n0 K0 sh' K' → rf_V nL sh' K' (cells + mc') (slots + ms') (pc + 3) (lv, v.toList ++ rest, M')) : rf_V nL sh K cells slots pc (lv, stk, M) := by
  subst hst
  have hf := rf_gfit B hc hsl
  obtain ⟨p, l, e, R, s, m, args, below, meth, c, D, ad, cad, A, Q⟩ := K
  have C0 := B.1
  obtain ⟨hx, hb, hml, hown, hts, hK, hT0, hA, hlk, hXs, hdf, hdl, hwf⟩ := C0
  obtain ⟨yo, y, yc, yn, yr⟩ := J
  obtain ⟨⟨m1, m2, m3, m4⟩, m5, m6⟩ := hm
  intro H locs ls hPw hD hS hl
  have e0 : (As.reverse ++ Value.ref a :: rest).map (rf_cv ad) = (As.map (rf_cv ad)).reverse ++ Value.ref (ad a) :: rest.map (rf_cv ad) := by simp [rf_cv]
  have e1 : ((rest.map (rf_cv ad)).map fun v => v.category).sum ≤ 8 := by
    rw [List.map_map]
    simpa [Function.comp_def, rf_cat] using hrest
  have m6 : yn ≤ 45 := m6
  show W p l e R s m args below meth c H locs cells slots Q (F0 m pc ls ((As.reverse ++ Value.ref a :: rest).map (rf_cv ad)))
  rw [e0]
  have hw : vq_CVW R s args (rf_own o) (rf_R ci) idx y yc yn yr hh (.codeWith y yc yn yr hh :: rf_WS) (rf_rm dc mc' ms') mc' ms' na := ⟨⟨rfl, rfl, by show dc + 1 ≤ _; omega, by show 8 + (yn + 11) + 64 * dc ≤ _; omega, pay_in hts (rf_goodJ m4), List.mem_cons_self⟩, hts _ m4, hts _ m3, ⟨m5.1, m5.2.1⟩, fun sig h => by have h2 := m5.2.2; rw [h] at h2; exact (Option.some.inj h2).symm, hts _ hlink, hts _ m1, hts _ m2⟩
  exact rf_afterG (Q := Q) B hnn hpl hS hl hlv hrs (vq_runVW (As := As.map (rf_cv ad)) (rest := rest.map (rf_cv ad)) ⟨hx, hb, hml, hown, hts⟩ (hM l D ad cad H.size) hw ⟨rf_Pre_blind, va_recv hK hPw (rf_cl ci hci) (rf_ws_at hwf ha), rf_Pre_at B hPw hD hS _⟩ rfl (by simpa using hna) hl.1 rfl (lv_room e1) hd hf) k
/-- a constructor of a nest mate -/
theorem rf_gcallN (B : rf_GB o cc nL d mc ms n0 K0 sh K) (J : rf_J) {dc mc' ms' na idx a ho : Nat} {As rest stk : List Value} {M' : rf_M} (hm : rf_mi J na) (hM : rf_GCon J dc mc' ms' sh (.ref a :: As) M none sh' M') (hdc : dc < d) (hnn : sh.1 ≤ sh'.1) (hlink : (o, idx, J.2.1, ho) ∈ rf_NM) (hna : As.length = na) (hst : stk = As.reverse ++ .ref a :: rest) (hrest : (rest.map fun v => v.category).sum ≤ 8) (hlv : lv.all (fun x => rf_br sh.1 x.2) = true) (hrs : rest.all (rf_br sh.1) = true) (hc : cells + mc' ≤ mc) (hsl : slots + ms' ≤ ms) (hd : decode cc pc = .ok (.invokespecial idx, 3))
    (k : ∀ K', rf_GB o cc nL d mc ms n0 K0 sh' K' → rf_V nL sh' K' (cells + mc') (slots + ms') (pc + 3) (lv, rest, M')) : rf_V nL sh K cells slots pc (lv, stk, M) := by
  subst hst
  have hf := rf_gfit B hc hsl
  obtain ⟨p, l, e, R, s, m, args, below, meth, c, D, ad, cad, A, Q⟩ := K
  have C0 := B.1
  obtain ⟨hx, hb, hml, hown, hts, hK, hT0, hA, hlk, hXs, hdf, hdl, hwf⟩ := C0
  obtain ⟨yo, y, yc, yn, yr⟩ := J
  obtain ⟨⟨m1, m3, m4⟩, m5, m6, m7, m8⟩ := hm
  have m8 : yr = none := m8
  subst m8
  intro H locs ls hPw hD hS hl
  have e0 : (As.reverse ++ Value.ref a :: rest).map (rf_cv ad) = (As.map (rf_cv ad)).reverse ++ Value.ref (ad a) :: rest.map (rf_cv ad) := by simp [rf_cv]
  have e1 : ((rest.map (rf_cv ad)).map fun v => v.category).sum ≤ 8 := by
    rw [List.map_map]
    simpa [Function.comp_def, rf_cat] using hrest
  have m6 : yn ≤ 45 := m6
  show W p l e R s m args below meth c H locs cells slots Q (F0 m pc ls ((As.reverse ++ Value.ref a :: rest).map (rf_cv ad)))
  rw [e0]
  have hnw : va_Nw (.methodLinkNest (rf_own o) idx y (rf_own ho)) s := hXs.1.1.2 (o, idx, y, ho) hlink
  have hw : va_CN R s args (rf_own o) idx y (rf_own ho) yc yn none (.code y yc yn none :: rf_WS) (rf_rm dc mc' ms') mc' ms' na ∧ y.name = "<init>" ∧ (Cond.instanceMethod y).before args s = true := ⟨va_cnB na hts (rf_goodJ m4) rfl rfl rfl hnw (hts _ m3) m5 ⟨by show dc + 1 ≤ _; omega, by show 8 + (yn + 11) + 64 * dc ≤ _; omega⟩, m7, hts _ m1⟩
  have hpre : PreS s H (va_Pc ((Value.ref a :: As).map (rf_cv ad)) (rf_Pre D ad cad sh M H.size)) (Value.ref (ad a) :: As.map (rf_cv ad)) := ⟨rf_Pre_blind, fun U hU hW => rf_Pre_at B hPw hD hS ((Value.ref a :: As).map (rf_cv ad)) U hU hW⟩
  exact rf_afterG (Q := Q) (v := none) B hnn rfl hS hl hlv hrs (va_runIN (As := As.map (rf_cv ad)) (rest := rest.map (rf_cv ad)) ⟨hx, hb, hml, hown, hts⟩ (hM l D ad cad H.size) hw hpre rfl (by simpa using hna) hl.1 rfl (lv_room e1) hd hf) k
end RFG

