/-! switches and names (written by wip/tool/gen.py) -/
section RFT
variable {o nL d : Nat} {cc : ByteArray} {sh : rf_Sh} {cells slots pc : Nat} {K : rf_K} {lv : rf_L} {st : List Value} {M : rf_M}
def rf_vi {β : Type} (x : Int32) (k : Int32 → Option β) : Option β := k x
theorem rf_vi_some {β : Type} {x : Int32} {k : Int32 → Option β} {r : β} (h : rf_vi x k = some r) : ∃ y, x = y ∧ k y = some r := ⟨x, rfl, h⟩
theorem rf_vi_top {x y : Int32} (h : x = y) (k : rf_V nL sh K cells slots pc (lv, .int y :: st, M)) : rf_V nL sh K cells slots pc (lv, .int x :: st, M) := by subst h; exact k
def rf_vl {β : Type} (x : Int64) (k : Int64 → Option β) : Option β := k x
theorem rf_vl_some {β : Type} {x : Int64} {k : Int64 → Option β} {r : β} (h : rf_vl x k = some r) : ∃ y, x = y ∧ k y = some r := ⟨x, rfl, h⟩
theorem rf_vl_top {x y : Int64} (h : x = y) (k : rf_V nL sh K cells slots pc (lv, .long y :: st, M)) : rf_V nL sh K cells slots pc (lv, .long x :: st, M) := by subst h; exact k
def rf_tt (cc : ByteArray) (pc : Nat) (z : Int32) (tgt : Nat) : Bool := match decode cc pc with
  | .ok (.tableswitch dflt lo hi offs, _) => if z.toInt < lo ∨ hi < z.toInt then decide ((pc : Int) + dflt = (tgt : Int)) else (match offs[(z.toInt - lo).toNat]? with
    | some off => decide ((pc : Int) + off = (tgt : Int))
    | none => false)
  | _ => false
theorem rf_tabc (C : rf_Ctx o cc nL d sh K) {x z : Int32} (hz : x = z) (tgt : Nat) (hd : rf_tt cc pc z tgt = true) (k : rf_V nL sh K cells slots tgt (lv, st, M)) : rf_V nL sh K cells slots pc (lv, .int x :: st, M) := by
  subst hz
  obtain ⟨p, l, e, R, s, m, args, below, meth, c, D, ad, cad, A, Q⟩ := K
  obtain ⟨hx, hb, hml, hown, hts, hK, hT, hA, hlk, hXs, hdf, hdl, hwf⟩ := C
  intro H locs ls hPw hD hS hl
  unfold rf_tt at hd
  split at hd
  · rename_i dflt lo hi offs len hdec
    split at hd
    · rename_i hout
      exact lv_tableOut hx hb hdec hout (by simpa using hd) (k H locs ls hPw hD hS hl)
    · rename_i hin
      split at hd
      · rename_i off ho
        exact lv_tableIn hx hb hdec (fun h => hin (Or.inl h)) (fun h => hin (Or.inr h)) ho (by simpa using hd) (k H locs ls hPw hD hS hl)
      · cases hd
  · cases hd
def rf_td (cc : ByteArray) (pc : Nat) (lo hi : Int) (tgt : Nat) : Bool := match decode cc pc with
  | .ok (.tableswitch dflt l h _, _) => decide (l = lo) && decide (h = hi) && decide ((pc : Int) + dflt = (tgt : Int))
  | _ => false
theorem rf_tabd (C : rf_Ctx o cc nL d sh K) {x : Int32} (lo hi : Int) (tgt : Nat) (hd : rf_td cc pc lo hi tgt = true) (h : x.toInt < lo ∨ hi < x.toInt) (k : rf_V nL sh K cells slots tgt (lv, st, M)) : rf_V nL sh K cells slots pc (lv, .int x :: st, M) := by
  obtain ⟨p, l, e, R, s, m, args, below, meth, c, D, ad, cad, A, Q⟩ := K
  obtain ⟨hx, hb, hml, hown, hts, hK, hT, hA, hlk, hXs, hdf, hdl, hwf⟩ := C
  intro H locs ls hPw hD hS hl
  unfold rf_td at hd
  split at hd
  · rename_i dflt lo' hi' offs len hdec
    simp only [Bool.and_eq_true, decide_eq_true_eq] at hd
    obtain ⟨⟨rfl, rfl⟩, ht⟩ := hd
    exact lv_tableOut hx hb hdec h ht (k H locs ls hPw hD hS hl)
  · cases hd
theorem rf_ti {x z : Int32} (h : ¬ x = z) : x.toInt ≠ z.toInt := fun e => h (Int32.toInt_inj.mp e)
theorem rf_off_d (ps : List (Int × Int)) (d x : Int) (h : ∀ q ∈ ps, q.1 ≠ x) : Op.lookupswitch.offset ps d x = d := by
  induction ps with
  | nil => rfl
  | cons q l ih =>
    obtain ⟨a, b⟩ := q
    rw [Op.lookupswitch.offset_cons, if_neg (h (a, b) List.mem_cons_self)]
    exact ih (fun z hz => h z (List.mem_cons_of_mem _ hz))
def rf_lt (cc : ByteArray) (pc : Nat) (z : Int32) (tgt : Nat) : Bool := match decode cc pc with
  | .ok (.lookupswitch dflt ps, _) => (ps.toList.zip (ps.toList.drop 1)).all (fun (a, next) => a.1 < next.1) && decide ((pc : Int) + Op.lookupswitch.offset ps.toList dflt z.toInt = (tgt : Int))
  | _ => false
theorem rf_lukc (C : rf_Ctx o cc nL d sh K) {x z : Int32} (hz : x = z) (tgt : Nat) (hd : rf_lt cc pc z tgt = true) (k : rf_V nL sh K cells slots tgt (lv, st, M)) : rf_V nL sh K cells slots pc (lv, .int x :: st, M) := by
  subst hz
  obtain ⟨p, l, e, R, s, m, args, below, meth, c, D, ad, cad, A, Q⟩ := K
  obtain ⟨hx, hb, hml, hown, hts, hK, hT, hA, hlk, hXs, hdf, hdl, hwf⟩ := C
  intro H locs ls hPw hD hS hl
  unfold rf_lt at hd
  split at hd
  · rename_i dflt ps len hdec
    simp only [Bool.and_eq_true, decide_eq_true_eq] at hd
    exact lv_lookup hx hb hdec hd.1 rfl hd.2 (k H locs ls hPw hD hS hl)
  · cases hd
def rf_ld (cc : ByteArray) (pc : Nat) (ks : List Int) (tgt : Nat) : Bool := match decode cc pc with
  | .ok (.lookupswitch dflt ps, _) => (ps.toList.zip (ps.toList.drop 1)).all (fun (a, next) => a.1 < next.1) && decide (ps.toList.map (fun q => q.1) = ks) && decide ((pc : Int) + dflt = (tgt : Int))
  | _ => false
theorem rf_lukd (C : rf_Ctx o cc nL d sh K) {x : Int32} (ks : List Int) (tgt : Nat) (hd : rf_ld cc pc ks tgt = true) (h : ∀ z ∈ ks, z ≠ x.toInt) (k : rf_V nL sh K cells slots tgt (lv, st, M)) : rf_V nL sh K cells slots pc (lv, .int x :: st, M) := by
  obtain ⟨p, l, e, R, s, m, args, below, meth, c, D, ad, cad, A, Q⟩ := K
  obtain ⟨hx, hb, hml, hown, hts, hK, hT, hA, hlk, hXs, hdf, hdl, hwf⟩ := C
  intro H locs ls hPw hD hS hl
  unfold rf_ld at hd
  split at hd
  · rename_i dflt ps len hdec
    simp only [Bool.and_eq_true, decide_eq_true_eq] at hd
    obtain ⟨⟨h1, h2⟩, h3⟩ := hd
    exact lv_lookup hx hb hdec h1 (rf_off_d _ _ _ (fun q hq => h q.1 (by rw [← h2]; exact List.mem_map.mpr ⟨q, hq, rfl⟩))) h3 (k H locs ls hPw hD hS hl)
  · cases hd
-- arraycopy
def rf_cI (M : rf_M) (a0 a1 : Nat) (sp dp n : Int32) : rf_M := (fun a b => if a = a1 then va_cpy (M.1 a0) (M.1 a1) sp.toNatClampNeg dp.toNatClampNeg n.toNatClampNeg b else M.1 a b, M.2.1, M.2.2)
def rf_cL (M : rf_M) (a0 a1 : Nat) (sp dp n : Int32) : rf_M := (M.1, fun a b => if a = a1 then va_cpy (M.2.1 a0) (M.2.1 a1) sp.toNatClampNeg dp.toNatClampNeg n.toNatClampNeg b else M.2.1 a b, M.2.2)
def rf_ci (m : rf_m) (a0 a1 : Nat) (sp dp n : Int32) : rf_m := (fun a b => if a = a1 then va_cpy (m.1 a0) (m.1 a1) sp.toNatClampNeg dp.toNatClampNeg n.toNatClampNeg b else m.1 a b, m.2)
def rf_cl2 (m : rf_m) (a0 a1 : Nat) (sp dp n : Int32) : rf_m := (m.1, fun a b => if a = a1 then va_cpy (m.2 a0) (m.2 a1) sp.toNatClampNeg dp.toNatClampNeg n.toNatClampNeg b else m.2 a b)
def rf_cg (sp dp n : Int32) (n0 n1 : Nat) : Bool := !(decide (sp < 0)) && !(decide (dp < 0)) && !(decide (n < 0)) && Nat.ble (sp.toNatClampNeg + n.toNatClampNeg) n0 && Nat.ble (dp.toNatClampNeg + n.toNatClampNeg) n1
theorem rf_cg_of {sp dp n : Int32} {n0 n1 : Nat} (h : rf_cg sp dp n n0 n1 = true) : ¬ sp < 0 ∧ ¬ dp < 0 ∧ ¬ n < 0 ∧ sp.toNatClampNeg + n.toNatClampNeg ≤ n0 ∧ dp.toNatClampNeg + n.toNatClampNeg ≤ n1 := by
  simp only [rf_cg, Bool.and_eq_true, Bool.not_eq_true', decide_eq_false_iff_not] at h
  obtain ⟨⟨⟨⟨h1, h2⟩, h3⟩, h4⟩, h5⟩ := h
  exact ⟨h1, h2, h3, Nat.le_of_ble_eq_true h4, Nat.le_of_ble_eq_true h5⟩
theorem rf_copyi (C : rf_Ctx o cc nL d sh K) (hd1 : 1 ≤ d) {a0 a1 n0 n1 : Nat} {sp dp n : Int32} {idx : Nat} (hlink : Cond.methodLink (rf_own o) idx arraycopyName ∈ rf_WS) (h0 : rf_at sh a0 = some (.inl (.int, n0))) (h1 : rf_at sh a1 = some (.inl (.int, n1))) (hg : rf_cg sp dp n n0 n1 = true) (hrest : (st.map fun v => v.category).sum ≤ 8) (hd : decode cc pc = .ok (.invokestatic idx, 3)) (k : rf_V nL sh K cells slots (pc + 3) (lv, st, rf_cI M a0 a1 sp dp n)) : rf_V nL sh K cells slots pc (lv, .int n :: .int dp :: .ref a1 :: .int sp :: .ref a0 :: st, M) := by
  obtain ⟨p, l, e, R, s, m, args, below, meth, c, D, ad, cad, A, Q⟩ := K
  obtain ⟨hx, hb, hml, hown, hts, hK, hT, hA, hlk, hXs, hdf, hdl, hwf⟩ := C
  intro H locs ls hPw hD hS hl
  obtain ⟨g1, g2, g3, g4, g5⟩ := rf_cg_of hg
  have e1 : ((st.map (rf_cv ad)).map fun v => v.category).sum ≤ 8 := by
    rw [List.map_map]
    simpa [Function.comp_def, rf_cat] using hrest
  have e : (rf_ws ad cad sh M).set a1 (ad a1, .inl (cad a1, n1, .inl (va_cpy (M.1 a0) (M.1 a1) sp.toNatClampNeg dp.toNatClampNeg n.toNatClampNeg))) = rf_ws ad cad sh (rf_cI M a0 a1 sp dp n) := rf_ws_set hwf h1 (by
    simp only [rf_cell, rf_row, rf_kd]
    congr 4
    funext j
    simp [rf_cI]) (rf_cell_ne (fun a b h => by simp [rf_cI, h]) (fun _ _ _ => rfl) (fun _ _ _ => rfl))
  have hw : nativeFrameWords "java/lang/System" "arraycopy" 5 = 7 := by decide
  exact va_copyi hx hb (hml.trans hl.1.symm) hown (hts _ hlink) (hts _ (rf_mem 46 (by decide +kernel))) (hts _ (rf_mem 46 (by decide +kernel))) (hts _ (rf_mem 46 (by decide +kernel))) ((hT a0 _ _ h0).app (hT a1 _ _ h1)) hPw hD hS a0 a1 0 1 (rf_ws_at hwf h0) (rf_ws_at hwf h1) rfl rfl (by decide) g1 g2 g3 g4 g5 (fun _ _ => rfl) (by omega) (by rw [hw]; omega) hd (fun H1 locs1 q1 q2 q3 => k H1 locs1 ls (e ▸ q1) (e ▸ q2) q3 hl)
theorem rf_copyl (C : rf_Ctx o cc nL d sh K) (hd1 : 1 ≤ d) {a0 a1 n0 n1 : Nat} {sp dp n : Int32} {idx : Nat} (hlink : Cond.methodLink (rf_own o) idx arraycopyName ∈ rf_WS) (h0 : rf_at sh a0 = some (.inl (.long, n0))) (h1 : rf_at sh a1 = some (.inl (.long, n1))) (hg : rf_cg sp dp n n0 n1 = true) (hrest : (st.map fun v => v.category).sum ≤ 8) (hd : decode cc pc = .ok (.invokestatic idx, 3)) (k : rf_V nL sh K cells slots (pc + 3) (lv, st, rf_cL M a0 a1 sp dp n)) : rf_V nL sh K cells slots pc (lv, .int n :: .int dp :: .ref a1 :: .int sp :: .ref a0 :: st, M) := by
  obtain ⟨p, l, e, R, s, m, args, below, meth, c, D, ad, cad, A, Q⟩ := K
  obtain ⟨hx, hb, hml, hown, hts, hK, hT, hA, hlk, hXs, hdf, hdl, hwf⟩ := C
  intro H locs ls hPw hD hS hl
  obtain ⟨g1, g2, g3, g4, g5⟩ := rf_cg_of hg
  have e1 : ((st.map (rf_cv ad)).map fun v => v.category).sum ≤ 8 := by
    rw [List.map_map]
    simpa [Function.comp_def, rf_cat] using hrest
  have e : (rf_ws ad cad sh M).set a1 (ad a1, .inl (cad a1, n1, .inr (.inl (va_cpy (M.2.1 a0) (M.2.1 a1) sp.toNatClampNeg dp.toNatClampNeg n.toNatClampNeg)))) = rf_ws ad cad sh (rf_cL M a0 a1 sp dp n) := rf_ws_set hwf h1 (by
    simp only [rf_cell, rf_row, rf_kd]
    congr 5
    funext j
    simp [rf_cL]) (rf_cell_ne (fun _ _ _ => rfl) (fun a b h => by simp [rf_cL, h]) (fun _ _ _ => rfl))
  have hw : nativeFrameWords "java/lang/System" "arraycopy" 5 = 7 := by decide
  exact va_copyl hx hb (hml.trans hl.1.symm) hown (hts _ hlink) (hts _ (rf_mem 46 (by decide +kernel))) (hts _ (rf_mem 46 (by decide +kernel))) (hts _ (rf_mem 46 (by decide +kernel))) ((hT a0 _ _ h0).app (hT a1 _ _ h1)) hPw hD hS a0 a1 0 1 (rf_ws_at hwf h0) (rf_ws_at hwf h1) rfl rfl (by decide) g1 g2 g3 g4 g5 (fun _ _ => rfl) (by omega) (by rw [hw]; omega) hd (fun H1 locs1 q1 q2 q3 => k H1 locs1 ls (e ▸ q1) (e ▸ q2) q3 hl)
-- cells that are named by a number that isn't known
def rf_isO (w : rf_w) (a ci : Nat) : Bool := decide (rf_at (rf_sh w) a = some (.inr ci))
def rf_isA (w : rf_w) (a : Nat) (t : FieldType) (n : Nat) : Bool := decide (rf_at (rf_sh w) a = some (.inl (t, n)))
def rf_isR (w : rf_w) (a f q : Nat) : Bool := decide (rf_Rt w a f = some q)
theorem rf_isO_of {w : rf_w} {a ci : Nat} (h : rf_isO w a ci = true) : rf_at (rf_sh w) a = some (.inr ci) := of_decide_eq_true h
theorem rf_isA_of {w : rf_w} {a : Nat} {t : FieldType} {n : Nat} (h : rf_isA w a t n = true) : rf_at (rf_sh w) a = some (.inl (t, n)) := of_decide_eq_true h
theorem rf_isR_of {w : rf_w} {a f q : Nat} (h : rf_isR w a f q = true) : rf_Rt w a f = some q := of_decide_eq_true h
def rf_al (w : rf_w) (a : Nat) : Option Nat := match rf_at (rf_sh w) a with
  | some (.inl (.int, n)) => some n
  | _ => none
theorem rf_al_of {w : rf_w} {a n : Nat} (h : rf_al w a = some n) : rf_at (rf_sh w) a = some (.inl (.int, n)) := by
  unfold rf_al at h
  split at h
  · rename_i n' e
    obtain rfl := Option.some.inj h
    exact e
  · cases h
def rf_o {β : Type} (x : Option Nat) (k : Nat → Option β) : Option β := match x with
  | none => none
  | some q => k q
theorem rf_o_some {β : Type} {x : Option Nat} {k : Nat → Option β} {r : β} (h : rf_o x k = some r) : ∃ q, x = some q ∧ k q = some r := by
  cases x with
  | none => cases h
  | some q => exact ⟨q, rfl, h⟩
theorem rf_d_get (C : rf_Ctx o cc nL d sh K) (ci f : Nat) {a : Nat} (ha : rf_at sh a = some (.inr ci)) (hok : rf_ok o nL cc pc (.invokeinterface ci f) 3 = true) (k : rf_V nL sh K cells slots (pc + 3) (lv, rf_rd M (rf_ft ci f) a f :: st, M)) : rf_V nL sh K cells slots pc (lv, .ref a :: st, M) :=
  rf_one (.invokeinterface ci f) C hok (S' := (lv, rf_rd M (rf_ft ci f) a f :: st, M)) (Ps := []) (by simp [rf_1, ha]) (fun _ h => absurd h List.not_mem_nil) k
theorem rf_d_getr (C : rf_Ctx o cc nL d sh K) (ci f : Nat) {a q : Nat} (ha : rf_at sh a = some (.inr ci)) (hk : rf_kd (rf_ft ci f) = 2) (hr : M.2.2 a f = some q) (hok : rf_ok o nL cc pc (.invokeinterface ci f) 3 = true) (k : rf_V nL sh K cells slots (pc + 3) (lv, .ref q :: st, M)) : rf_V nL sh K cells slots pc (lv, .ref a :: st, M) := by
  refine rf_d_get C ci f ha hok ?_
  have e : rf_rd M (rf_ft ci f) a f = .ref q := by simp [rf_rd, hk, hr, va_rf]
  rw [e]
  exact k
theorem rf_d_put (C : rf_Ctx o cc nL d sh K) (ci f : Nat) {a : Nat} {x : Int32} (ha : rf_at sh a = some (.inr ci)) (hty : rf_ft ci f = .int) (hok : rf_ok o nL cc pc (.multianewarray ci f) 3 = true) (k : rf_V nL sh K cells slots (pc + 3) (lv, st, rf_uI M a f x)) : rf_V nL sh K cells slots pc (lv, .int x :: .ref a :: st, M) :=
  rf_one (.multianewarray ci f) C hok (S' := (lv, st, rf_uI M a f x)) (Ps := []) (by simp [rf_1, ha, hty]) (fun _ h => absurd h List.not_mem_nil) k
theorem rf_d_putz (C : rf_Ctx o cc nL d sh K) (ci f : Nat) {a : Nat} {x : Int32} (ha : rf_at sh a = some (.inr ci)) (hty : rf_ft ci f = .boolean) (h01 : x = 0 ∨ x = 1) (hok : rf_ok o nL cc pc (.multianewarray ci f) 3 = true) (k : rf_V nL sh K cells slots (pc + 3) (lv, st, rf_uI M a f x)) : rf_V nL sh K cells slots pc (lv, .int x :: .ref a :: st, M) :=
  rf_one (.multianewarray ci f) C hok (S' := (lv, st, rf_uI M a f x)) (Ps := [x = 0 ∨ x = 1]) (by simp [rf_1, ha, hty]) (fun p h => by rcases List.mem_cons.mp h with rfl | h; exact h01; exact absurd h List.not_mem_nil) k
theorem rf_d_alen (C : rf_Ctx o cc nL d sh K) {a n : Nat} {t : FieldType} (ha : rf_at sh a = some (.inl (t, n))) (hok : rf_ok o nL cc pc .arraylength 1 = true) (k : rf_V nL sh K cells slots (pc + 1) (lv, .int (Int32.ofNat n) :: st, M)) : rf_V nL sh K cells slots pc (lv, .ref a :: st, M) :=
  rf_one .arraylength C hok (S' := (lv, .int (Int32.ofNat n) :: st, M)) (Ps := []) (by simp [rf_1, ha]) (fun _ h => absurd h List.not_mem_nil) k
theorem rf_d_iaload (C : rf_Ctx o cc nL d sh K) {a n : Nat} {x : Int32} (ha : rf_at sh a = some (.inl (.int, n))) (hin : vp_in x n) (hok : rf_ok o nL cc pc .iaload 1 = true) (k : rf_V nL sh K cells slots (pc + 1) (lv, .int (M.1 a x.toNatClampNeg) :: st, M)) : rf_V nL sh K cells slots pc (lv, .int x :: .ref a :: st, M) :=
  rf_one .iaload C hok (S' := (lv, .int (M.1 a x.toNatClampNeg) :: st, M)) (Ps := [vp_in x n]) (by simp [rf_1, ha]) (fun p h => by rcases List.mem_cons.mp h with rfl | h; exact hin; exact absurd h List.not_mem_nil) k
theorem rf_d_laload (C : rf_Ctx o cc nL d sh K) {a n : Nat} {x : Int32} (ha : rf_at sh a = some (.inl (.long, n))) (hin : vp_in x n) (hok : rf_ok o nL cc pc .laload 1 = true) (k : rf_V nL sh K cells slots (pc + 1) (lv, .long (M.2.1 a x.toNatClampNeg) :: st, M)) : rf_V nL sh K cells slots pc (lv, .int x :: .ref a :: st, M) :=
  rf_one .laload C hok (S' := (lv, .long (M.2.1 a x.toNatClampNeg) :: st, M)) (Ps := [vp_in x n]) (by simp [rf_1, ha]) (fun p h => by rcases List.mem_cons.mp h with rfl | h; exact hin; exact absurd h List.not_mem_nil) k
theorem rf_d_iastore (C : rf_Ctx o cc nL d sh K) {a n : Nat} {x y : Int32} (ha : rf_at sh a = some (.inl (.int, n))) (hin : vp_in x n) (hok : rf_ok o nL cc pc .iastore 1 = true) (k : rf_V nL sh K cells slots (pc + 1) (lv, st, rf_uI M a x.toNatClampNeg y)) : rf_V nL sh K cells slots pc (lv, .int y :: .int x :: .ref a :: st, M) :=
  rf_one .iastore C hok (S' := (lv, st, rf_uI M a x.toNatClampNeg y)) (Ps := [vp_in x n]) (by simp [rf_1, ha]) (fun p h => by rcases List.mem_cons.mp h with rfl | h; exact hin; exact absurd h List.not_mem_nil) k
theorem rf_d_lastore (C : rf_Ctx o cc nL d sh K) {a n : Nat} {x : Int32} {y : Int64} (ha : rf_at sh a = some (.inl (.long, n))) (hin : vp_in x n) (hok : rf_ok o nL cc pc .lastore 1 = true) (k : rf_V nL sh K cells slots (pc + 1) (lv, st, rf_uL M a x.toNatClampNeg y)) : rf_V nL sh K cells slots pc (lv, .long y :: .int x :: .ref a :: st, M) :=
  rf_one .lastore C hok (S' := (lv, st, rf_uL M a x.toNatClampNeg y)) (Ps := [vp_in x n]) (by simp [rf_1, ha]) (fun p h => by rcases List.mem_cons.mp h with rfl | h; exact hin; exact absurd h List.not_mem_nil) k
theorem rf_d_aaload (C : rf_Ctx o cc nL d sh K) {a n q : Nat} {x : Int32} {cn : String} (ha : rf_at sh a = some (.inl (.object cn, n))) (hin : vp_in x n) (hr : M.2.2 a x.toNatClampNeg = some q) (hok : rf_ok o nL cc pc .aaload 1 = true) (k : rf_V nL sh K cells slots (pc + 1) (lv, .ref q :: st, M)) : rf_V nL sh K cells slots pc (lv, .int x :: .ref a :: st, M) := by
  have e : va_rf (M.2.2 a x.toNatClampNeg) = .ref q := by rw [hr]; rfl
  exact rf_one .aaload C hok (S' := (lv, .ref q :: st, M)) (Ps := [vp_in x n]) (by simp [rf_1, ha, e]) (fun p h => by rcases List.mem_cons.mp h with rfl | h; exact hin; exact absurd h List.not_mem_nil) k
end RFT
theorem lk_0_76 : Cond.methodLink (rf_own 0) 76 yJ7_fill_53178 ∈ rf_WS := rf_mem 65 (by decide +kernel)
theorem lk_0_91 : Cond.methodLink (rf_own 0) 91 yX7_cornerOf ∈ rf_WS := rf_mem 65 (by decide +kernel)
theorem lk_0_100 : Cond.methodLink (rf_own 0) 100 yX7_triangleMiss ∈ rf_WS := rf_mem 65 (by decide +kernel)
theorem lk_0_104 : Cond.methodLink (rf_own 0) 104 yX0_take ∈ rf_WS := rf_mem 65 (by decide +kernel)
theorem lk_0_111 : Cond.methodLink (rf_own 0) 111 yX7_turnsIn ∈ rf_WS := rf_mem 65 (by decide +kernel)
theorem lk_0_115 : Cond.methodLink (rf_own 0) 115 yX7_turnOf ∈ rf_WS := rf_mem 65 (by decide +kernel)
theorem lk_0_118 : Cond.methodLink (rf_own 0) 118 yX7_roundMiss ∈ rf_WS := rf_mem 65 (by decide +kernel)
theorem lk_0_125 : Cond.methodLink (rf_own 0) 125 yX3_weightOf ∈ rf_WS := rf_mem 66 (by decide +kernel)
theorem lk_0_128 : Cond.methodLink (rf_own 0) 128 yX0_fillMatrix ∈ rf_WS := rf_mem 66 (by decide +kernel)
theorem lk_0_131 : Cond.methodLink (rf_own 0) 131 yX1_setLong ∈ rf_WS := rf_mem 66 (by decide +kernel)
theorem lk_0_138 : Cond.methodLink (rf_own 0) 138 yX0_eliminate ∈ rf_WS := rf_mem 66 (by decide +kernel)
theorem lk_0_142 : Cond.methodLink (rf_own 0) 142 yX1_copyFrom ∈ rf_WS := rf_mem 67 (by decide +kernel)
theorem lk_0_146 : Cond.methodLink (rf_own 0) 146 yX1_setProduct ∈ rf_WS := rf_mem 67 (by decide +kernel)
theorem lk_0_150 : Cond.methodLink (rf_own 0) 150 yX1_addSigned ∈ rf_WS := rf_mem 67 (by decide +kernel)
theorem lk_0_154 : Cond.methodLink (rf_own 0) 154 yX1_setQuotient ∈ rf_WS := rf_mem 68 (by decide +kernel)
theorem lk_0_160 : Cond.methodLink (rf_own 0) 160 yX1_setFloor ∈ rf_WS := rf_mem 69 (by decide +kernel)
theorem lk_0_163 : Cond.methodLink (rf_own 0) 163 yX1_isLong ∈ rf_WS := rf_mem 70 (by decide +kernel)
theorem lk_0_167 : Cond.methodLink (rf_own 0) 167 yX1_toLong ∈ rf_WS := rf_mem 70 (by decide +kernel)
theorem lk_0_171 : Cond.methodLink (rf_own 0) 171 yX0_layChange ∈ rf_WS := rf_mem 73 (by decide +kernel)
theorem lk_0_176 : Cond.methodLink (rf_own 0) 176 yX1_dropSign ∈ rf_WS := rf_mem 74 (by decide +kernel)
theorem lk_0_179 : Cond.methodLink (rf_own 0) 179 yX0_isShort ∈ rf_WS := rf_mem 74 (by decide +kernel)
theorem lk_0_183 : Cond.methodLink (rf_own 0) 183 Lib.MathLoose.abs_long.x ∈ rf_WS := rf_mem 74 (by decide +kernel)
theorem lk_1_17 : Cond.methodLink (rf_own 1) 17 Lib.MathLoose.abs_long.x ∈ rf_WS := rf_mem 66 (by decide +kernel)
theorem lk_1_29 : Cond.methodLink (rf_own 1) 29 arraycopyName ∈ rf_WS := rf_mem 67 (by decide +kernel)
theorem lk_1_37 : Cond.methodLink (rf_own 1) 37 yJ7_fill_d0a16 ∈ rf_WS := rf_mem 67 (by decide +kernel)
theorem lk_1_43 : Cond.methodLink (rf_own 1) 43 yX1_settle ∈ rf_WS := rf_mem 67 (by decide +kernel)
theorem lk_1_47 : Cond.methodLink (rf_own 1) 47 yX1_addSize ∈ rf_WS := rf_mem 67 (by decide +kernel)
theorem lk_1_51 : Cond.methodLink (rf_own 1) 51 yX1_compareSize ∈ rf_WS := rf_mem 68 (by decide +kernel)
theorem lk_1_55 : Cond.methodLink (rf_own 1) 55 yX1_setDifference ∈ rf_WS := rf_mem 68 (by decide +kernel)
theorem lk_1_59 : Cond.methodLink (rf_own 1) 59 Lib.Math.max.name ∈ rf_WS := rf_mem 68 (by decide +kernel)
theorem lk_1_63 : Cond.methodLink (rf_own 1) 63 yX1_copyFrom ∈ rf_WS := rf_mem 68 (by decide +kernel)
theorem lk_1_66 : Cond.methodLink (rf_own 1) 66 yJ13_numberOfLeadingZeros_95d88 ∈ rf_WS := rf_mem 68 (by decide +kernel)
theorem lk_1_72 : Cond.methodLink (rf_own 1) 72 yX1_shiftUp ∈ rf_WS := rf_mem 68 (by decide +kernel)
theorem lk_1_76 : Cond.methodLink (rf_own 1) 76 yX1_takeOut ∈ rf_WS := rf_mem 69 (by decide +kernel)
theorem lk_1_80 : Cond.methodLink (rf_own 1) 80 yX1_shiftDown ∈ rf_WS := rf_mem 69 (by decide +kernel)
theorem lk_1_84 : Cond.methodLink (rf_own 1) 84 yX1_setQuotient ∈ rf_WS := rf_mem 70 (by decide +kernel)
theorem lk_1_88 : Cond.methodLink (rf_own 1) 88 yX1_setLong ∈ rf_WS := rf_mem 70 (by decide +kernel)
theorem lk_1_92 : Cond.methodLink (rf_own 1) 92 yX1_addSigned ∈ rf_WS := rf_mem 70 (by decide +kernel)
theorem lk_1_96 : Cond.methodLink (rf_own 1) 96 Lib.MathLoose.min_long.x ∈ rf_WS := rf_mem 69 (by decide +kernel)
theorem lk_1_100 : Cond.methodLink (rf_own 1) 100 yX1_addTimes ∈ rf_WS := rf_mem 69 (by decide +kernel)
theorem lk_1_104 : Cond.methodLink (rf_own 1) 104 Lib.Math.min.name ∈ rf_WS := rf_mem 67 (by decide +kernel)
theorem lk_2_48 : Cond.methodLink (rf_own 2) 48 yX2_gatherLive ∈ rf_WS := rf_mem 85 (by decide +kernel)
theorem lk_2_56 : Cond.methodLink (rf_own 2) 56 arraycopyName ∈ rf_WS := rf_mem 85 (by decide +kernel)
theorem lk_2_65 : Cond.methodLink (rf_own 2) 65 yX2_countSets ∈ rf_WS := rf_mem 85 (by decide +kernel)
theorem lk_2_75 : Cond.methodLink (rf_own 2) 75 yX3_isKept ∈ rf_WS := rf_mem 85 (by decide +kernel)
theorem lk_2_79 : Cond.methodLink (rf_own 2) 79 yX2_strikesOut ∈ rf_WS := rf_mem 85 (by decide +kernel)
theorem lk_2_82 : Cond.methodLink (rf_own 2) 82 yX7_isAllWithin ∈ rf_WS := rf_mem 86 (by decide +kernel)
theorem lk_2_88 : Cond.methodLink (rf_own 2) 88 yX2_keepFirst ∈ rf_WS := rf_mem 86 (by decide +kernel)
theorem lk_2_92 : Cond.methodLink (rf_own 2) 92 yX2_pickNext ∈ rf_WS := rf_mem 86 (by decide +kernel)
theorem lk_2_95 : Cond.methodLink (rf_own 2) 95 yX3_factOf ∈ rf_WS := rf_mem 86 (by decide +kernel)
theorem lk_2_98 : Cond.methodLink (rf_own 2) 98 yX3_tallyOf ∈ rf_WS := rf_mem 86 (by decide +kernel)
theorem lk_3_69 : Cond.methodLink (rf_own 3) 69 yX3_forget ∈ rf_WS := rf_mem 22 (by decide +kernel)
theorem lk_3_73 : Cond.methodLink (rf_own 3) 73 yX3_factOf ∈ rf_WS := rf_mem 26 (by decide +kernel)
theorem lk_3_84 : Cond.methodLink (rf_own 3) 84 yX3_recount ∈ rf_WS := rf_mem 25 (by decide +kernel)
theorem lk_3_88 : Cond.methodLink (rf_own 3) 88 yX3_sortSeen ∈ rf_WS := rf_mem 26 (by decide +kernel)
theorem lk_3_91 : Cond.methodLink (rf_own 3) 91 yX9_clearFacts ∈ rf_WS := rf_mem 26 (by decide +kernel)
theorem lk_3_98 : Cond.methodLink (rf_own 3) 98 yX3_judge ∈ rf_WS := rf_mem 26 (by decide +kernel)
theorem lk_3_102 : Cond.methodLink (rf_own 3) 102 Lib.Math.min.name ∈ rf_WS := rf_mem 26 (by decide +kernel)
theorem lk_3_107 : Cond.methodLink (rf_own 3) 107 Lib.Math.max.name ∈ rf_WS := rf_mem 26 (by decide +kernel)
theorem lk_3_110 : Cond.methodLink (rf_own 3) 110 yX3_isSeen ∈ rf_WS := rf_mem 26 (by decide +kernel)
theorem lk_3_114 : Cond.methodLink (rf_own 3) 114 yX3_isStruck ∈ rf_WS := rf_mem 27 (by decide +kernel)
theorem lk_3_118 : Cond.methodLink (rf_own 3) 118 Lib.Math.abs.name ∈ rf_WS := rf_mem 27 (by decide +kernel)
theorem lk_3_122 : Cond.methodLink (rf_own 3) 122 yX9_striker ∈ rf_WS := rf_mem 27 (by decide +kernel)
theorem lk_3_125 : Cond.methodLink (rf_own 3) 125 yX3_isKept ∈ rf_WS := rf_mem 34 (by decide +kernel)
theorem lk_3_128 : Cond.methodLink (rf_own 3) 128 yX3_layOut ∈ rf_WS := rf_mem 31 (by decide +kernel)
theorem lk_3_131 : Cond.methodLink (rf_own 3) 131 yX9_weight ∈ rf_WS := rf_mem 32 (by decide +kernel)
theorem lk_3_134 : Cond.methodLink (rf_own 3) 134 yX9_sendsAgain ∈ rf_WS := rf_mem 32 (by decide +kernel)
theorem lk_3_137 : Cond.methodLink (rf_own 3) 137 yX3_isAgain ∈ rf_WS := rf_mem 97 (by decide +kernel)
theorem lk_4_55 : Cond.methodLink (rf_own 4) 55 yX4_gatherWell ∈ rf_WS := rf_mem 76 (by decide +kernel)
theorem lk_4_59 : Cond.methodLink (rf_own 4) 59 yX4_measureShrink ∈ rf_WS := rf_mem 77 (by decide +kernel)
theorem lk_4_68 : Cond.methodLink (rf_own 4) 68 yX6_sideAt ∈ rf_WS := rf_mem 78 (by decide +kernel)
theorem lk_4_74 : Cond.methodLink (rf_own 4) 74 yX6_leastOf ∈ rf_WS := rf_mem 78 (by decide +kernel)
theorem lk_4_77 : Cond.methodLink (rf_own 4) 77 yX6_mostOf ∈ rf_WS := rf_mem 78 (by decide +kernel)
theorem lk_4_100 : Cond.methodLink (rf_own 4) 100 Lib.Math.max.name ∈ rf_WS := rf_mem 77 (by decide +kernel)
theorem lk_4_114 : Cond.methodLink (rf_own 4) 114 yX7_isWell ∈ rf_WS := rf_mem 76 (by decide +kernel)
theorem lk_4_118 : Cond.methodLink (rf_own 4) 118 yX4_isAble ∈ rf_WS := rf_mem 76 (by decide +kernel)
theorem lk_4_121 : Cond.methodLink (rf_own 4) 121 yX4_takeUp ∈ rf_WS := rf_mem 77 (by decide +kernel)
theorem lk_4_125 : Cond.methodLink (rf_own 4) 125 yX7_cornerOf ∈ rf_WS := rf_mem 77 (by decide +kernel)
theorem lk_4_130 : Cond.methodLink (rf_own 4) 130 yX3_tallyOf ∈ rf_WS := rf_mem 77 (by decide +kernel)
theorem lk_4_135 : (4, 135, yX11_sineOf, 11) ∈ rf_NM := by decide +kernel
theorem lk_4_139 : Cond.methodLink (rf_own 4) 139 yX7_opposite ∈ rf_WS := rf_mem 77 (by decide +kernel)
theorem lk_4_142 : Cond.methodLink (rf_own 4) 142 Lib.Math.min.name ∈ rf_WS := rf_mem 77 (by decide +kernel)
theorem lk_4_150 : Cond.methodLink (rf_own 4) 150 Lib.MathLoose.min_long.x ∈ rf_WS := rf_mem 77 (by decide +kernel)
theorem lk_4_174 : Cond.methodLink (rf_own 4) 174 yX4_compareRows ∈ rf_WS := rf_mem 78 (by decide +kernel)
theorem lk_4_180 : Cond.methodLink (rf_own 4) 180 yX7_triangleMiss ∈ rf_WS := rf_mem 82 (by decide +kernel)
theorem lk_4_184 : Cond.methodLink (rf_own 4) 184 yX7_isBeyond ∈ rf_WS := rf_mem 82 (by decide +kernel)
theorem lk_4_187 : (4, 187, yX11_isAhead, 11) ∈ rf_NM := by decide +kernel
theorem lk_4_191 : Cond.methodLink (rf_own 4) 191 yX4_goOver ∈ rf_WS := rf_mem 82 (by decide +kernel)
theorem lk_4_194 : Cond.methodLink (rf_own 4) 194 yX4_isReached ∈ rf_WS := rf_mem 83 (by decide +kernel)
theorem lk_5_50 : Cond.methodLink (rf_own 5) 50 yX5_isMark ∈ rf_WS := rf_mem 19 (by decide +kernel)
theorem lk_5_60 : Cond.methodLink (rf_own 5) 60 yX5_hazeAt ∈ rf_WS := rf_mem 18 (by decide +kernel)
theorem lk_5_64 : Cond.methodLink (rf_own 5) 64 yX5_towerOn ∈ rf_WS := rf_mem 20 (by decide +kernel)
theorem lk_5_68 : Cond.methodLink (rf_own 5) 68 Lib.Math.abs.name ∈ rf_WS := rf_mem 20 (by decide +kernel)
theorem lk_5_73 : Cond.methodLink (rf_own 5) 73 Lib.Math.max.name ∈ rf_WS := rf_mem 20 (by decide +kernel)
theorem lk_5_76 : Cond.methodLink (rf_own 5) 76 yX5_reachTo ∈ rf_WS := rf_mem 20 (by decide +kernel)
theorem lk_5_80 : Cond.methodLink (rf_own 5) 80 yX5_topOf ∈ rf_WS := rf_mem 20 (by decide +kernel)
theorem lk_5_83 : Cond.methodLink (rf_own 5) 83 yJ9_floorDiv_7cf53 ∈ rf_WS := rf_mem 20 (by decide +kernel)
theorem lk_6_43 : (6, 43, yX11_sideOf, 11) ∈ rf_NM := by decide +kernel
theorem lk_6_48 : Cond.methodLink (rf_own 6) 48 yX6_lengthOf ∈ rf_WS := rf_mem 55 (by decide +kernel)
theorem lk_6_52 : Cond.methodLink (rf_own 6) 52 Lib.Math.abs.name ∈ rf_WS := rf_mem 56 (by decide +kernel)
theorem lk_6_57 : Cond.methodLink (rf_own 6) 57 yX6_twinOf ∈ rf_WS := rf_mem 55 (by decide +kernel)
theorem lk_6_60 : Cond.methodLink (rf_own 6) 60 yX6_areTorn ∈ rf_WS := rf_mem 56 (by decide +kernel)
theorem lk_6_64 : Cond.methodLink (rf_own 6) 64 Lib.Math.min.name ∈ rf_WS := rf_mem 55 (by decide +kernel)
theorem lk_6_67 : Cond.methodLink (rf_own 6) 67 Lib.Math.max.name ∈ rf_WS := rf_mem 55 (by decide +kernel)
theorem lk_6_77 : Cond.methodLink (rf_own 6) 77 yJ9_floorDiv_f86c9 ∈ rf_WS := rf_mem 96 (by decide +kernel)
theorem lk_7_37 : Cond.methodLink (rf_own 7) 37 yX7_looksAt ∈ rf_WS := rf_mem 57 (by decide +kernel)
theorem lk_7_47 : (7, 47, yX11_isAhead, 11) ∈ rf_NM := by decide +kernel
theorem lk_7_54 : Cond.methodLink (rf_own 7) 54 arraycopyName ∈ rf_WS := rf_mem 59 (by decide +kernel)
theorem lk_7_60 : Cond.methodLink (rf_own 7) 60 yX7_cornerOf ∈ rf_WS := rf_mem 62 (by decide +kernel)
theorem lk_7_64 : (7, 64, yX11_sideOf, 11) ∈ rf_NM := by decide +kernel
theorem lk_7_68 : Cond.methodLink (rf_own 7) 68 yX7_sumLess ∈ rf_WS := rf_mem 60 (by decide +kernel)
theorem lk_7_74 : Cond.methodLink (rf_own 7) 74 yX7_triangleMiss ∈ rf_WS := rf_mem 63 (by decide +kernel)
theorem lk_7_78 : Cond.methodLink (rf_own 7) 78 yX7_roundMiss ∈ rf_WS := rf_mem 63 (by decide +kernel)
theorem lk_7_81 : Cond.methodLink (rf_own 7) 81 Lib.Math.abs.name ∈ rf_WS := rf_mem 63 (by decide +kernel)
theorem lk_7_90 : Cond.methodLink (rf_own 7) 90 yX7_missOf ∈ rf_WS := rf_mem 63 (by decide +kernel)
theorem lk_7_93 : Cond.methodLink (rf_own 7) 93 yX7_isBeyond ∈ rf_WS := rf_mem 63 (by decide +kernel)
theorem lk_8_96 : Cond.methodLink (rf_own 8) 96 yX8_fail ∈ rf_WS := rf_mem 43 (by decide +kernel)
theorem lk_8_114 : Cond.methodLink (rf_own 8) 114 yX8_hold ∈ rf_WS := rf_mem 44 (by decide +kernel)
theorem lk_8_123 : Cond.methodLink (rf_own 8) 123 yX8_write ∈ rf_WS := rf_mem 44 (by decide +kernel)
theorem lk_8_126 : Cond.methodLink (rf_own 8) 126 yX8_signHere ∈ rf_WS := rf_mem 45 (by decide +kernel)
theorem lk_8_129 : Cond.methodLink (rf_own 8) 129 yX8_join ∈ rf_WS := rf_mem 45 (by decide +kernel)
theorem lk_8_136 : Cond.methodLink (rf_own 8) 136 yX8_release ∈ rf_WS := rf_mem 45 (by decide +kernel)
theorem lk_8_143 : Cond.methodLink (rf_own 8) 143 yX8_looseness ∈ rf_WS := rf_mem 45 (by decide +kernel)
theorem lk_8_150 : Cond.methodLink (rf_own 8) 150 yX8_isLetter ∈ rf_WS := rf_mem 37 (by decide +kernel)
theorem lk_8_157 : Cond.methodLink (rf_own 8) 157 yX8_isDigit ∈ rf_WS := rf_mem 37 (by decide +kernel)
theorem lk_9_48 : Cond.methodLink (rf_own 9) 48 yX9_takeFour ∈ rf_WS := rf_mem 35 (by decide +kernel)
theorem lk_9_65 : Cond.methodLink (rf_own 9) 65 arraycopyName ∈ rf_WS := rf_mem 46 (by decide +kernel)
theorem lk_9_71 : Cond.methodLink (rf_own 9) 71 yX9_putInForce ∈ rf_WS := rf_mem 46 (by decide +kernel)
theorem lk_9_75 : Cond.methodLink (rf_own 9) 75 yJ7_fill_53178 ∈ rf_WS := rf_mem 26 (by decide +kernel)
theorem lk_9_81 : Cond.methodLink (rf_own 9) 81 yX9_isDue ∈ rf_WS := rf_mem 27 (by decide +kernel)
theorem lk_9_85 : Cond.methodLink (rf_own 9) 85 yX9_holds ∈ rf_WS := rf_mem 27 (by decide +kernel)
theorem lk_9_89 : Cond.methodLink (rf_own 9) 89 yX9_total ∈ rf_WS := rf_mem 32 (by decide +kernel)
theorem lk_9_93 : Cond.methodLink (rf_own 9) 93 Lib.Math.min.name ∈ rf_WS := rf_mem 32 (by decide +kernel)
theorem lk_9_99 : Cond.methodLink (rf_own 9) 99 Lib.Math.max.name ∈ rf_WS := rf_mem 32 (by decide +kernel)
theorem lk_9_102 : Cond.methodLink (rf_own 9) 102 yX9_latest ∈ rf_WS := rf_mem 51 (by decide +kernel)
theorem lk_9_106 : Cond.methodLink (rf_own 9) 106 yX9_clearFacts ∈ rf_WS := rf_mem 52 (by decide +kernel)
theorem lk_9_109 : Cond.methodLink (rf_own 9) 109 yX9_run ∈ rf_WS := rf_mem 27 (by decide +kernel)
theorem lk_9_113 : Cond.methodLink (rf_own 9) 113 yX9_joined ∈ rf_WS := rf_mem 28 (by decide +kernel)
theorem lk_10_53 : Cond.methodLink (rf_own 10) 53 yX10_sight ∈ rf_WS := rf_mem 89 (by decide +kernel)
theorem lk_10_57 : Cond.methodLink (rf_own 10) 57 yJ7_fill_53178 ∈ rf_WS := rf_mem 89 (by decide +kernel)
theorem lk_10_63 : Cond.methodLink (rf_own 10) 63 yX10_takeStars ∈ rf_WS := rf_mem 89 (by decide +kernel)
theorem lk_10_86 : Cond.methodLink (rf_own 10) 86 yX10_carry ∈ rf_WS := rf_mem 89 (by decide +kernel)
theorem lk_10_90 : Cond.methodLink (rf_own 10) 90 yX10_rankLayer ∈ rf_WS := rf_mem 89 (by decide +kernel)
theorem lk_10_93 : Cond.methodLink (rf_own 10) 93 yX10_meanOfStars ∈ rf_WS := rf_mem 89 (by decide +kernel)
theorem lk_10_98 : Cond.methodLink (rf_own 10) 98 yJ9_floorMod_7cf53 ∈ rf_WS := rf_mem 89 (by decide +kernel)
theorem lk_10_106 : Cond.methodLink (rf_own 10) 106 yJ9_floorDiv_7cf53 ∈ rf_WS := rf_mem 93 (by decide +kernel)
theorem lk_10_110 : Cond.methodLink (rf_own 10) 110 yX10_meanUp ∈ rf_WS := rf_mem 92 (by decide +kernel)
theorem lk_10_113 : Cond.methodLink (rf_own 10) 113 yX10_heightFrom ∈ rf_WS := rf_mem 94 (by decide +kernel)
theorem lk_10_116 : Cond.methodLink (rf_own 10) 116 Lib.Math.abs.name ∈ rf_WS := rf_mem 94 (by decide +kernel)
theorem lk_11_84 : Cond.methodLink (rf_own 11) 84 yX11_isCell ∈ rf_WS := rf_mem 13 (by decide +kernel)
theorem lk_11_88 : Cond.methodLink (rf_own 11) 88 yX11_denied ∈ rf_WS := rf_mem 14 (by decide +kernel)
theorem lk_11_91 : Cond.methodLink (rf_own 11) 91 yX11_isWithin ∈ rf_WS := rf_mem 13 (by decide +kernel)
theorem lk_11_101 : Cond.methodLink (rf_own 11) 101 yX11_granted ∈ rf_WS := rf_mem 14 (by decide +kernel)
theorem lk_11_105 : Cond.methodLink (rf_own 11) 105 yX11_refused ∈ rf_WS := rf_mem 15 (by decide +kernel)
theorem lk_11_109 : Cond.methodLink (rf_own 11) 109 yX5_isTaken ∈ rf_WS := rf_mem 15 (by decide +kernel)
theorem lk_11_116 : Cond.methodLink (rf_own 11) 116 yX5_addMark ∈ rf_WS := rf_mem 15 (by decide +kernel)
theorem lk_11_119 : Cond.methodLink (rf_own 11) 119 yX11_answered ∈ rf_WS := rf_mem 16 (by decide +kernel)
theorem lk_11_122 : Cond.methodLink (rf_own 11) 122 yX5_isMark ∈ rf_WS := rf_mem 16 (by decide +kernel)
theorem lk_11_128 : Cond.methodLink (rf_own 11) 128 yX5_raise ∈ rf_WS := rf_mem 17 (by decide +kernel)
theorem lk_11_136 : Cond.methodLink (rf_own 11) 136 yX11_isDay ∈ rf_WS := rf_mem 18 (by decide +kernel)
theorem lk_11_139 : Cond.methodLink (rf_own 11) 139 yX11_isHour ∈ rf_WS := rf_mem 18 (by decide +kernel)
theorem lk_11_142 : Cond.methodLink (rf_own 11) 142 yX5_setReach ∈ rf_WS := rf_mem 18 (by decide +kernel)
theorem lk_11_145 : Cond.methodLink (rf_own 11) 145 yX5_isPair ∈ rf_WS := rf_mem 19 (by decide +kernel)
theorem lk_11_149 : Cond.methodLink (rf_own 11) 149 yX5_lookOver ∈ rf_WS := rf_mem 19 (by decide +kernel)
theorem lk_11_156 : Cond.methodLink (rf_own 11) 156 yX3_addParty ∈ rf_WS := rf_mem 21 (by decide +kernel)
theorem lk_11_163 : Cond.methodLink (rf_own 11) 163 yX3_addAngle ∈ rf_WS := rf_mem 22 (by decide +kernel)
theorem lk_11_167 : Cond.methodLink (rf_own 11) 167 yX3_isAngle ∈ rf_WS := rf_mem 23 (by decide +kernel)
theorem lk_11_170 : Cond.methodLink (rf_own 11) 170 yX3_isParty ∈ rf_WS := rf_mem 23 (by decide +kernel)
theorem lk_11_173 : Cond.methodLink (rf_own 11) 173 yX11_wholeOf ∈ rf_WS := rf_mem 23 (by decide +kernel)
theorem lk_11_176 : Cond.methodLink (rf_own 11) 176 yX3_hasRoomFor ∈ rf_WS := rf_mem 23 (by decide +kernel)
theorem lk_11_179 : Cond.methodLink (rf_own 11) 179 yX3_addReading ∈ rf_WS := rf_mem 23 (by decide +kernel)
theorem lk_11_183 : Cond.methodLink (rf_own 11) 183 yX3_sign ∈ rf_WS := rf_mem 24 (by decide +kernel)
theorem lk_11_187 : Cond.methodLink (rf_own 11) 187 yX3_isReading ∈ rf_WS := rf_mem 25 (by decide +kernel)
theorem lk_11_190 : Cond.methodLink (rf_own 11) 190 yX3_factOf ∈ rf_WS := rf_mem 25 (by decide +kernel)
theorem lk_11_193 : Cond.methodLink (rf_own 11) 193 yX3_freshen ∈ rf_WS := rf_mem 25 (by decide +kernel)
theorem lk_11_200 : Cond.methodLink (rf_own 11) 200 yX3_isSeen ∈ rf_WS := rf_mem 30 (by decide +kernel)
theorem lk_11_203 : Cond.methodLink (rf_own 11) 203 yX3_isStruck ∈ rf_WS := rf_mem 30 (by decide +kernel)
theorem lk_11_206 : Cond.methodLink (rf_own 11) 206 yX3_addStrike ∈ rf_WS := rf_mem 30 (by decide +kernel)
theorem lk_11_210 : Cond.methodLink (rf_own 11) 210 yX3_tallyOf ∈ rf_WS := rf_mem 31 (by decide +kernel)
theorem lk_11_213 : Cond.methodLink (rf_own 11) 213 yX3_weightOf ∈ rf_WS := rf_mem 31 (by decide +kernel)
theorem lk_11_216 : Cond.methodLink (rf_own 11) 216 yX3_isAgain ∈ rf_WS := rf_mem 32 (by decide +kernel)
theorem lk_11_222 : Cond.methodLink (rf_own 11) 222 yX3_recount ∈ rf_WS := rf_mem 33 (by decide +kernel)
theorem lk_11_229 : Cond.methodLink (rf_own 11) 229 yX3_forget ∈ rf_WS := rf_mem 33 (by decide +kernel)
theorem lk_11_238 : Cond.methodLink (rf_own 11) 238 yX9_takeIn ∈ rf_WS := rf_mem 35 (by decide +kernel)
theorem lk_11_245 : Cond.methodLink (rf_own 11) 245 yX11_isTime ∈ rf_WS := rf_mem 36 (by decide +kernel)
theorem lk_11_270 : Cond.methodLink (rf_own 11) 270 yX9_isStriking ∈ rf_WS := rf_mem 46 (by decide +kernel)
theorem lk_11_273 : Cond.methodLink (rf_own 11) 273 yX3_forgetAll ∈ rf_WS := rf_mem 46 (by decide +kernel)
theorem lk_11_279 : Cond.methodLink (rf_own 11) 279 yX9_putInForce ∈ rf_WS := rf_mem 51 (by decide +kernel)
theorem lk_11_282 : Cond.methodLink (rf_own 11) 282 yX9_leastAngle ∈ rf_WS := rf_mem 51 (by decide +kernel)
theorem lk_11_285 : Cond.methodLink (rf_own 11) 285 yX9_allowedMiss ∈ rf_WS := rf_mem 52 (by decide +kernel)
theorem lk_11_288 : Cond.methodLink (rf_own 11) 288 yX6_mayLay ∈ rf_WS := rf_mem 53 (by decide +kernel)
theorem lk_11_294 : Cond.methodLink (rf_own 11) 294 yX6_addBase ∈ rf_WS := rf_mem 53 (by decide +kernel)
theorem lk_11_297 : Cond.methodLink (rf_own 11) 297 yX6_isBase ∈ rf_WS := rf_mem 54 (by decide +kernel)
theorem lk_11_304 : Cond.methodLink (rf_own 11) 304 yX6_addBar ∈ rf_WS := rf_mem 54 (by decide +kernel)
theorem lk_11_310 : Cond.methodLink (rf_own 11) 310 yX6_lengthOf ∈ rf_WS := rf_mem 55 (by decide +kernel)
theorem lk_11_313 : Cond.methodLink (rf_own 11) 313 yX6_leastOf ∈ rf_WS := rf_mem 55 (by decide +kernel)
theorem lk_11_316 : Cond.methodLink (rf_own 11) 316 yX6_mostOf ∈ rf_WS := rf_mem 56 (by decide +kernel)
theorem lk_11_319 : Cond.methodLink (rf_own 11) 319 yX6_laidAgain ∈ rf_WS := rf_mem 56 (by decide +kernel)
theorem lk_11_322 : Cond.methodLink (rf_own 11) 322 yX7_isTriangular ∈ rf_WS := rf_mem 57 (by decide +kernel)
theorem lk_11_328 : Cond.methodLink (rf_own 11) 328 yX7_addTriangle ∈ rf_WS := rf_mem 58 (by decide +kernel)
theorem lk_11_331 : Cond.methodLink (rf_own 11) 331 yX11_fillRow ∈ rf_WS := rf_mem 58 (by decide +kernel)
theorem lk_11_335 : Cond.methodLink (rf_own 11) 335 yX7_goesRound ∈ rf_WS := rf_mem 59 (by decide +kernel)
theorem lk_11_342 : Cond.methodLink (rf_own 11) 342 yX7_addRound ∈ rf_WS := rf_mem 59 (by decide +kernel)
theorem lk_11_346 : Cond.methodLink (rf_own 11) 346 yX3_freshenAll ∈ rf_WS := rf_mem 60 (by decide +kernel)
theorem lk_11_349 : Cond.methodLink (rf_own 11) 349 yX7_roundMiss ∈ rf_WS := rf_mem 60 (by decide +kernel)
theorem lk_11_354 : Cond.methodLink (rf_own 11) 354 yX7_isTriangle ∈ rf_WS := rf_mem 60 (by decide +kernel)
theorem lk_11_357 : Cond.methodLink (rf_own 11) 357 yX7_triangleMiss ∈ rf_WS := rf_mem 60 (by decide +kernel)
theorem lk_11_360 : Cond.methodLink (rf_own 11) 360 yX7_isWell ∈ rf_WS := rf_mem 62 (by decide +kernel)
theorem lk_11_363 : Cond.methodLink (rf_own 11) 363 yX7_wideOnes ∈ rf_WS := rf_mem 63 (by decide +kernel)
theorem lk_11_366 : Cond.methodLink (rf_own 11) 366 yJ6_bitCount_0f7a4 ∈ rf_WS := rf_mem 64 (by decide +kernel)
theorem lk_11_371 : Cond.methodLink (rf_own 11) 371 yX0_gather ∈ rf_WS := rf_mem 64 (by decide +kernel)
theorem lk_11_374 : Cond.methodLink (rf_own 11) 374 yX0_weigh ∈ rf_WS := rf_mem 65 (by decide +kernel)
theorem lk_11_377 : Cond.methodLink (rf_own 11) 377 yX0_solve ∈ rf_WS := rf_mem 66 (by decide +kernel)
theorem lk_11_380 : Cond.methodLink (rf_own 11) 380 yX0_keep ∈ rf_WS := rf_mem 69 (by decide +kernel)
theorem lk_11_384 : Cond.methodLink (rf_own 11) 384 yX0_thousandths ∈ rf_WS := rf_mem 73 (by decide +kernel)
theorem lk_11_387 : Cond.methodLink (rf_own 11) 387 yX0_lowestTerm ∈ rf_WS := rf_mem 73 (by decide +kernel)
theorem lk_11_396 : Cond.methodLink (rf_own 11) 396 yX11_sineOf ∈ rf_WS := rf_mem 75 (by decide +kernel)
theorem lk_11_399 : Cond.methodLink (rf_own 11) 399 yX11_sideOf ∈ rf_WS := rf_mem 76 (by decide +kernel)
theorem lk_11_417 : Cond.methodLink (rf_own 11) 417 yX6_sideAt ∈ rf_WS := rf_mem 82 (by decide +kernel)
theorem lk_11_423 : Cond.methodLink (rf_own 11) 423 yX4_firstBad ∈ rf_WS := rf_mem 82 (by decide +kernel)
theorem lk_11_427 : Cond.methodLink (rf_own 11) 427 yX3_isKept ∈ rf_WS := rf_mem 83 (by decide +kernel)
theorem lk_11_430 : Cond.methodLink (rf_own 11) 430 yX2_isSuspect ∈ rf_WS := rf_mem 83 (by decide +kernel)
theorem lk_11_436 : Cond.methodLink (rf_own 11) 436 yX2_addSuspect ∈ rf_WS := rf_mem 84 (by decide +kernel)
theorem lk_11_439 : Cond.methodLink (rf_own 11) 439 yX2_fewest ∈ rf_WS := rf_mem 85 (by decide +kernel)
theorem lk_11_455 : Cond.methodLink (rf_own 11) 455 yX10_addStar ∈ rf_WS := rf_mem 88 (by decide +kernel)
theorem lk_11_458 : Cond.methodLink (rf_own 11) 458 yX10_carryNorth ∈ rf_WS := rf_mem 88 (by decide +kernel)
theorem lk_11_461 : Cond.methodLink (rf_own 11) 461 yX10_northOf ∈ rf_WS := rf_mem 90 (by decide +kernel)
theorem lk_11_464 : Cond.methodLink (rf_own 11) 464 yX10_stepsOf ∈ rf_WS := rf_mem 91 (by decide +kernel)
theorem lk_11_472 : Cond.methodLink (rf_own 11) 472 yX10_addLevel ∈ rf_WS := rf_mem 92 (by decide +kernel)
theorem lk_11_475 : Cond.methodLink (rf_own 11) 475 yX10_heightFrom ∈ rf_WS := rf_mem 92 (by decide +kernel)
theorem lk_11_478 : Cond.methodLink (rf_own 11) 478 yX10_doubtOf ∈ rf_WS := rf_mem 93 (by decide +kernel)
theorem lk_11_484 : Cond.methodLink (rf_own 11) 484 yX5_addMass ∈ rf_WS := rf_mem 94 (by decide +kernel)
theorem lk_11_487 : Cond.methodLink (rf_own 11) 487 yX5_pullAt ∈ rf_WS := rf_mem 95 (by decide +kernel)
theorem lk_11_493 : Cond.methodLink (rf_own 11) 493 yX6_addArc ∈ rf_WS := rf_mem 95 (by decide +kernel)
theorem lk_11_496 : Cond.methodLink (rf_own 11) 496 yX6_fit ∈ rf_WS := rf_mem 96 (by decide +kernel)
theorem lk_11_503 : Cond.methodLink (rf_own 11) 503 yX3_againOnes ∈ rf_WS := rf_mem 97 (by decide +kernel)
theorem lk_11_506 : Cond.methodLink (rf_own 11) 506 Lib.Math.min.name ∈ rf_WS := rf_mem 53 (by decide +kernel)
theorem lk_11_511 : Cond.methodLink (rf_own 11) 511 Lib.Math.max.name ∈ rf_WS := rf_mem 53 (by decide +kernel)
theorem lk_14_338 : Cond.methodLink (rf_own 14) 338 yX14_isCell ∈ rf_WS := rf_mem 14 (by decide +kernel)
theorem lk_14_342 : Cond.methodLink (rf_own 14) 342 yX14_denied ∈ rf_WS := rf_mem 14 (by decide +kernel)
theorem lk_14_345 : Cond.methodLink (rf_own 14) 345 yX14_in ∈ rf_WS := rf_mem 14 (by decide +kernel)
theorem lk_14_349 : Cond.methodLink (rf_own 14) 349 yX14_granted ∈ rf_WS := rf_mem 15 (by decide +kernel)
theorem lk_14_353 : Cond.methodLink (rf_own 14) 353 yX14_refused ∈ rf_WS := rf_mem 16 (by decide +kernel)
theorem lk_14_357 : Cond.methodLink (rf_own 14) 357 yX14_done ∈ rf_WS := rf_mem 16 (by decide +kernel)
theorem lk_14_360 : Cond.methodLink (rf_own 14) 360 yX14_isMark ∈ rf_WS := rf_mem 17 (by decide +kernel)
theorem lk_14_366 : Cond.methodLink (rf_own 14) 366 yX14_isDay ∈ rf_WS := rf_mem 19 (by decide +kernel)
theorem lk_14_369 : Cond.methodLink (rf_own 14) 369 yX14_isHour ∈ rf_WS := rf_mem 19 (by decide +kernel)
theorem lk_14_375 : Cond.methodLink (rf_own 14) 375 Lib.Math.max.name ∈ rf_WS := rf_mem 19 (by decide +kernel)
theorem lk_14_381 : Cond.methodLink (rf_own 14) 381 Lib.Math.abs.name ∈ rf_WS := rf_mem 21 (by decide +kernel)
theorem lk_14_384 : Cond.methodLink (rf_own 14) 384 yX14_reachOf ∈ rf_WS := rf_mem 21 (by decide +kernel)
theorem lk_14_387 : Cond.methodLink (rf_own 14) 387 yX14_topOf ∈ rf_WS := rf_mem 21 (by decide +kernel)
theorem lk_14_390 : Cond.methodLink (rf_own 14) 390 yX14_down ∈ rf_WS := rf_mem 21 (by decide +kernel)
theorem lk_14_402 : Cond.methodLink (rf_own 14) 402 yX14_isAngle ∈ rf_WS := rf_mem 24 (by decide +kernel)
theorem lk_14_405 : Cond.methodLink (rf_own 14) 405 yX14_isParty ∈ rf_WS := rf_mem 24 (by decide +kernel)
theorem lk_14_415 : Cond.methodLink (rf_own 14) 415 yX14_readingsOf ∈ rf_WS := rf_mem 25 (by decide +kernel)
theorem lk_14_418 : Cond.methodLink (rf_own 14) 418 yX14_isReading ∈ rf_WS := rf_mem 28 (by decide +kernel)
theorem lk_14_433 : Cond.methodLink (rf_own 14) 433 yX14_isStruckBy ∈ rf_WS := rf_mem 29 (by decide +kernel)
theorem lk_14_437 : Cond.methodLink (rf_own 14) 437 yX14_strikerOf ∈ rf_WS := rf_mem 29 (by decide +kernel)
theorem lk_14_443 : Cond.methodLink (rf_own 14) 443 Lib.Math.min.name ∈ rf_WS := rf_mem 29 (by decide +kernel)
theorem lk_14_458 : Cond.methodLink (rf_own 14) 458 yX14_isInForce ∈ rf_WS := rf_mem 29 (by decide +kernel)
theorem lk_14_461 : Cond.methodLink (rf_own 14) 461 yX14_testOf ∈ rf_WS := rf_mem 29 (by decide +kernel)
theorem lk_14_465 : Cond.methodLink (rf_own 14) 465 yX14_goes ∈ rf_WS := rf_mem 28 (by decide +kernel)
theorem lk_14_469 : Cond.methodLink (rf_own 14) 469 yX14_now ∈ rf_WS := rf_mem 28 (by decide +kernel)
theorem lk_14_473 : Cond.methodLink (rf_own 14) 473 yX14_namesOf ∈ rf_WS := rf_mem 33 (by decide +kernel)
theorem lk_14_476 : Cond.methodLink (rf_own 14) 476 yX14_sumOf ∈ rf_WS := rf_mem 33 (by decide +kernel)
theorem lk_14_480 : Cond.methodLink (rf_own 14) 480 yX14_weightOf ∈ rf_WS := rf_mem 32 (by decide +kernel)
theorem lk_14_483 : Cond.methodLink (rf_own 14) 483 yX14_isAgain ∈ rf_WS := rf_mem 33 (by decide +kernel)
theorem lk_14_511 : Cond.methodLink (rf_own 14) 511 yX14_byteAt ∈ rf_WS := rf_mem 47 (by decide +kernel)
theorem lk_14_520 : Cond.methodLink (rf_own 14) 520 yX14_isLetter ∈ rf_WS := rf_mem 48 (by decide +kernel)
theorem lk_14_526 : Cond.methodLink (rf_own 14) 526 yX14_isDigit ∈ rf_WS := rf_mem 48 (by decide +kernel)
theorem lk_14_532 : Cond.methodLink (rf_own 14) 532 yX14_isMarkByte ∈ rf_WS := rf_mem 48 (by decide +kernel)
theorem lk_14_560 : Cond.methodLink (rf_own 14) 560 yX14_next ∈ rf_WS := rf_mem 47 (by decide +kernel)
theorem lk_14_596 : Cond.methodLink (rf_own 14) 596 yX14_is ∈ rf_WS := rf_mem 49 (by decide +kernel)
theorem lk_14_639 : Cond.methodLink (rf_own 14) 639 Lib.MathLoose.min_long.x ∈ rf_WS := rf_mem 30 (by decide +kernel)
theorem lk_14_642 : Cond.methodLink (rf_own 14) 642 Lib.MathLoose.max_long.x ∈ rf_WS := rf_mem 30 (by decide +kernel)
theorem lk_14_652 : Cond.methodLink (rf_own 14) 652 yX14_bound ∈ rf_WS := rf_mem 30 (by decide +kernel)
theorem lk_14_656 : Cond.methodLink (rf_own 14) 656 yX14_valueOf ∈ rf_WS := rf_mem 29 (by decide +kernel)
theorem lk_14_660 : Cond.methodLink (rf_own 14) 660 yX14_latest ∈ rf_WS := rf_mem 52 (by decide +kernel)
theorem lk_14_663 : Cond.methodLink (rf_own 14) 663 yX14_allowed ∈ rf_WS := rf_mem 52 (by decide +kernel)
theorem lk_14_669 : Cond.methodLink (rf_own 14) 669 yX14_isOf ∈ rf_WS := rf_mem 53 (by decide +kernel)
theorem lk_14_672 : Cond.methodLink (rf_own 14) 672 yX14_isBase ∈ rf_WS := rf_mem 54 (by decide +kernel)
theorem lk_14_676 : Cond.methodLink (rf_own 14) 676 yX14_lengthOf ∈ rf_WS := rf_mem 56 (by decide +kernel)
theorem lk_14_679 : Cond.methodLink (rf_own 14) 679 yX14_twinOf ∈ rf_WS := rf_mem 57 (by decide +kernel)
theorem lk_14_682 : Cond.methodLink (rf_own 14) 682 yX14_isTorn ∈ rf_WS := rf_mem 57 (by decide +kernel)
theorem lk_14_685 : Cond.methodLink (rf_own 14) 685 yX14_spanOf ∈ rf_WS := rf_mem 56 (by decide +kernel)
theorem lk_14_692 : Cond.methodLink (rf_own 14) 692 yX14_isBetween ∈ rf_WS := rf_mem 58 (by decide +kernel)
theorem lk_14_698 : Cond.methodLink (rf_own 14) 698 yX14_meanOf ∈ rf_WS := rf_mem 61 (by decide +kernel)
theorem lk_14_703 : Cond.methodLink (rf_own 14) 703 yX14_sizeOf ∈ rf_WS := rf_mem 61 (by decide +kernel)
theorem lk_14_706 : Cond.methodLink (rf_own 14) 706 yX14_angleIn ∈ rf_WS := rf_mem 61 (by decide +kernel)
theorem lk_14_713 : Cond.methodLink (rf_own 14) 713 yX14_allMeans ∈ rf_WS := rf_mem 61 (by decide +kernel)
theorem lk_14_716 : Cond.methodLink (rf_own 14) 716 yX14_missOf ∈ rf_WS := rf_mem 61 (by decide +kernel)
theorem lk_14_719 : Cond.methodLink (rf_own 14) 719 yX14_isTriangle ∈ rf_WS := rf_mem 62 (by decide +kernel)
theorem lk_14_722 : Cond.methodLink (rf_own 14) 722 yX14_isWell ∈ rf_WS := rf_mem 62 (by decide +kernel)
theorem lk_14_725 : Cond.methodLink (rf_own 14) 725 yX14_isWide ∈ rf_WS := rf_mem 64 (by decide +kernel)
theorem lk_14_728 : Cond.methodLink (rf_own 14) 728 yX14_wideOnes ∈ rf_WS := rf_mem 64 (by decide +kernel)
theorem lk_14_733 : Cond.methodLink (rf_own 14) 733 Lib.MathLoose.abs_long.x ∈ rf_WS := rf_mem 71 (by decide +kernel)
theorem lk_14_736 : Cond.methodLink (rf_own 14) 736 yX14_turns ∈ rf_WS := rf_mem 71 (by decide +kernel)
theorem lk_14_740 : Cond.methodLink (rf_own 14) 740 yX14_set ∈ rf_WS := rf_mem 71 (by decide +kernel)
theorem lk_14_744 : Cond.methodLink (rf_own 14) 744 yX14_copies ∈ rf_WS := rf_mem 71 (by decide +kernel)
theorem lk_14_748 : Cond.methodLink (rf_own 14) 748 yX14_adds ∈ rf_WS := rf_mem 71 (by decide +kernel)
theorem lk_14_751 : Cond.methodLink (rf_own 14) 751 yX14_isNoLess ∈ rf_WS := rf_mem 72 (by decide +kernel)
theorem lk_14_755 : Cond.methodLink (rf_own 14) 755 yX14_isBelow ∈ rf_WS := rf_mem 72 (by decide +kernel)
theorem lk_14_759 : Cond.methodLink (rf_own 14) 759 yX14_divides ∈ rf_WS := rf_mem 72 (by decide +kernel)
theorem lk_14_762 : Cond.methodLink (rf_own 14) 762 yX14_isZero ∈ rf_WS := rf_mem 71 (by decide +kernel)
theorem lk_14_767 : Cond.methodLink (rf_own 14) 767 yX14_bits ∈ rf_WS := rf_mem 70 (by decide +kernel)
theorem lk_14_770 : Cond.methodLink (rf_own 14) 770 yX14_times ∈ rf_WS := rf_mem 71 (by decide +kernel)
theorem lk_14_774 : Cond.methodLink (rf_own 14) 774 yX14_isPartOf ∈ rf_WS := rf_mem 70 (by decide +kernel)
theorem lk_14_777 : Cond.methodLink (rf_own 14) 777 yX14_determinant ∈ rf_WS := rf_mem 71 (by decide +kernel)
theorem lk_14_782 : Cond.methodLink (rf_own 14) 782 yX14_floors ∈ rf_WS := rf_mem 72 (by decide +kernel)
theorem lk_14_785 : Cond.methodLink (rf_own 14) 785 yX14_isLong ∈ rf_WS := rf_mem 72 (by decide +kernel)
theorem lk_14_788 : Cond.methodLink (rf_own 14) 788 yX14_quotientLong ∈ rf_WS := rf_mem 72 (by decide +kernel)
theorem lk_14_803 : Cond.methodLink (rf_own 14) 803 yX14_sineOf ∈ rf_WS := rf_mem 75 (by decide +kernel)
theorem lk_14_831 : Cond.methodLink (rf_own 14) 831 yX14_carries ∈ rf_WS := rf_mem 80 (by decide +kernel)
theorem lk_14_842 : Cond.methodLink (rf_own 14) 842 yX14_allSines ∈ rf_WS := rf_mem 80 (by decide +kernel)
theorem lk_14_854 : Cond.methodLink (rf_own 14) 854 yX14_allows ∈ rf_WS := rf_mem 83 (by decide +kernel)
theorem lk_14_861 : Cond.methodLink (rf_own 14) 861 yX14_isKeptNow ∈ rf_WS := rf_mem 84 (by decide +kernel)
theorem lk_14_864 : Cond.methodLink (rf_own 14) 864 yX14_isRight ∈ rf_WS := rf_mem 86 (by decide +kernel)
theorem lk_14_877 : Cond.methodLink (rf_own 14) 877 yX14_rounded ∈ rf_WS := rf_mem 90 (by decide +kernel)
theorem lk_14_880 : Cond.methodLink (rf_own 14) 880 yX14_ownNorth ∈ rf_WS := rf_mem 90 (by decide +kernel)
theorem lk_14_883 : Cond.methodLink (rf_own 14) 883 yX14_offers ∈ rf_WS := rf_mem 90 (by decide +kernel)
theorem lk_14_887 : Cond.methodLink (rf_own 14) 887 yX14_tells ∈ rf_WS := rf_mem 91 (by decide +kernel)
theorem lk_14_890 : Cond.methodLink (rf_own 14) 890 yX14_norths ∈ rf_WS := rf_mem 90 (by decide +kernel)
theorem lk_14_898 : Cond.methodLink (rf_own 14) 898 yX14_meanUp ∈ rf_WS := rf_mem 93 (by decide +kernel)
theorem lk_14_907 : Cond.methodLink (rf_own 14) 907 yX14_isLevelled ∈ rf_WS := rf_mem 93 (by decide +kernel)
theorem lk_14_918 : Cond.methodLink (rf_own 14) 918 yX14_downLong ∈ rf_WS := rf_mem 96 (by decide +kernel)
theorem lk_21_308 : Cond.methodLink (rf_own 21) 308 yJ6_numberOfLeadingZeros_0f7a4 ∈ rf_WS := rf_mem 68 (by decide +kernel)
