/-! String constants: cells outside the picture, by number 1000000 + i; their bytes 2000000 + i -/
section RFZ
variable {o nL d : Nat} {cc : ByteArray} {sh : rf_Sh} {cells slots pc : Nat} {K : rf_K} {lv : rf_L} {st : List Value} {M : rf_M}
def rf_isS (a : Nat) : Bool := Nat.ble 1000000 a && Nat.ble a 1000032
def rf_sB (a : Nat) : List Int32 := rf_sb.getD (a - 1000000) []
theorem rf_str_len : rf_str.length = 33 := by decide +kernel
theorem rf_X_str {ad : Nat → Nat} {A : Nat → Prop} {U : State} {H : Heap} (h : rf_X ad A U H) {a : Nat} (ha : rf_isS a = true) : ∃ q : Nat × Nat × String, rf_str[a - 1000000]? = some q ∧ vk_R (rf_own q.1) q.2.1 q.2.2 (ad a) U ∧ va_O "java/lang/String" (ad a) A U H ∧ va_OF "java/lang/String" "coder" "B" (.int 0) (ad a) A U H ∧ va_OF "java/lang/String" "value" "[B" (.ref (ad (a + 1000000))) (ad a) A U H ∧ va_T .byte (ad (a + 1000000)) (rf_sB a).length (fun j => .int ((rf_sB a).getD j 0)) A U H := by
  simp only [rf_isS, Bool.and_eq_true] at ha
  have h1 := Nat.le_of_ble_eq_true ha.1
  have h2 := Nat.le_of_ble_eq_true ha.2
  have hl : a - 1000000 < rf_str.length := by rw [rf_str_len]; omega
  have e1 : 1000000 + (a - 1000000) = a := by omega
  have e2 : 2000000 + (a - 1000000) = a + 1000000 := by omega
  have h3 := h.2 (a - 1000000) _ (List.getElem?_eq_getElem hl)
  rw [e1, e2] at h3
  exact ⟨_, List.getElem?_eq_getElem hl, h3⟩
theorem rf_s_val (C : rf_Ctx o cc nL d sh K) {a : Nat} (ha : rf_isS a = true) {idx : Nat} (hlink : Cond.fieldLink (rf_own o) idx "java/lang/String" "value" "[B" ∈ rf_WS) (hd : decode cc pc = .ok (.getfield idx, 3)) (k : rf_V nL sh K cells slots (pc + 3) (lv, .ref (a + 1000000) :: st, M)) : rf_V nL sh K cells slots pc (lv, .ref a :: st, M) := by
  obtain ⟨p, l, e, R, s, m, args, below, meth, c, D, ad, cad, A, Q⟩ := K
  obtain ⟨hx, hb, hml, hown, hts, hK, hT, hA, hlk, hXs, hdf, hdl, hwf⟩ := C
  intro H locs ls hPw hD hS hl
  obtain ⟨q, -, -, -, -, h4, -⟩ := rf_X_str hXs ha
  exact vk_getf hx hb h4 hS hown (hts _ hlink) (fun _ h => h) hd (k H locs ls hPw hD hS hl)
theorem rf_s_cod (C : rf_Ctx o cc nL d sh K) {a : Nat} (ha : rf_isS a = true) {idx : Nat} (hlink : Cond.fieldLink (rf_own o) idx "java/lang/String" "coder" "B" ∈ rf_WS) (hd : decode cc pc = .ok (.getfield idx, 3)) (k : rf_V nL sh K cells slots (pc + 3) (lv, .int 0 :: st, M)) : rf_V nL sh K cells slots pc (lv, .ref a :: st, M) := by
  obtain ⟨p, l, e, R, s, m, args, below, meth, c, D, ad, cad, A, Q⟩ := K
  obtain ⟨hx, hb, hml, hown, hts, hK, hT, hA, hlk, hXs, hdf, hdl, hwf⟩ := C
  intro H locs ls hPw hD hS hl
  obtain ⟨q, -, -, -, h3, -, -⟩ := rf_X_str hXs ha
  exact vk_getf hx hb h3 hS hown (hts _ hlink) (fun _ h => h) hd (k H locs ls hPw hD hS hl)
theorem rf_s_cmp (C : rf_Ctx o cc nL d sh K) {idx : Nat} (hlink : Cond.fieldLink (rf_own o) idx "java/lang/String" "COMPACT_STRINGS" "Z" ∈ rf_WS) (hd : decode cc pc = .ok (.getstatic idx, 3)) (k : rf_V nL sh K cells slots (pc + 3) (lv, .int 1 :: st, M)) : rf_V nL sh K cells slots pc (lv, st, M) := by
  obtain ⟨p, l, e, R, s, m, args, below, meth, c, D, ad, cad, A, Q⟩ := K
  obtain ⟨hx, hb, hml, hown, hts, hK, hT, hA, hlk, hXs, hdf, hdl, hwf⟩ := C
  intro H locs ls hPw hD hS hl
  exact va_gets hx hb hXs.1.2.1 hS hown (hts _ hlink) (fun _ h => h) hd (k H locs ls hPw hD hS hl)
theorem rf_s_fmt (C : rf_Ctx o cc nL d sh K) {idx : Nat} (hlink : Cond.fieldLink (rf_own o) idx "jdk/internal/util/Preconditions" "SIOOBE_FORMATTER" "Ljava/util/function/BiFunction;" ∈ rf_WS) (hd : decode cc pc = .ok (.getstatic idx, 3)) (k1 : rf_V nL sh K cells slots (pc + 3) (lv, .null :: st, M)) (k2 : rf_V nL sh K cells slots (pc + 3) (lv, .ref 3000001 :: st, M)) : rf_V nL sh K cells slots pc (lv, st, M) := by
  obtain ⟨p, l, e, R, s, m, args, below, meth, c, D, ad, cad, A, Q⟩ := K
  obtain ⟨hx, hb, hml, hown, hts, hK, hT, hA, hlk, hXs, hdf, hdl, hwf⟩ := C
  intro H locs ls hPw hD hS hl
  rcases hXs.1.2.2 with hz | hz
  · exact va_gets hx hb hz hS hown (hts _ hlink) (fun _ h => h) hd (k1 H locs ls hPw hD hS hl)
  · exact va_gets hx hb hz hS hown (hts _ hlink) (fun _ h => h) hd (k2 H locs ls hPw hD hS hl)
theorem rf_s_len (C : rf_Ctx o cc nL d sh K) {a : Nat} (ha : rf_isS a = true) (hd : decode cc pc = .ok (.arraylength, 1)) (k : rf_V nL sh K cells slots (pc + 1) (lv, .int (Int32.ofNat (rf_sB a).length) :: st, M)) : rf_V nL sh K cells slots pc (lv, .ref (a + 1000000) :: st, M) := by
  obtain ⟨p, l, e, R, s, m, args, below, meth, c, D, ad, cad, A, Q⟩ := K
  obtain ⟨hx, hb, hml, hown, hts, hK, hT, hA, hlk, hXs, hdf, hdl, hwf⟩ := C
  intro H locs ls hPw hD hS hl
  obtain ⟨q, -, -, -, -, -, h5⟩ := rf_X_str hXs ha
  exact va_tlen hx hb h5 hS rfl hd (k H locs ls hPw hD hS hl)
theorem rf_s_bald (C : rf_Ctx o cc nL d sh K) {a : Nat} {x : Int32} (ha : rf_isS a = true) (hin : vp_in x (rf_sB a).length) (hd : decode cc pc = .ok (.baload, 1)) (k : rf_V nL sh K cells slots (pc + 1) (lv, .int ((rf_sB a).getD x.toNatClampNeg 0) :: st, M)) : rf_V nL sh K cells slots pc (lv, .int x :: .ref (a + 1000000) :: st, M) := by
  obtain ⟨p, l, e, R, s, m, args, below, meth, c, D, ad, cad, A, Q⟩ := K
  obtain ⟨hx, hb, hml, hown, hts, hK, hT, hA, hlk, hXs, hdf, hdl, hwf⟩ := C
  intro H locs ls hPw hD hS hl
  obtain ⟨q, -, -, -, -, -, h5⟩ := rf_X_str hXs ha
  exact va_tb hx hb h5 hS hin rfl hd (k H locs ls hPw hD hS hl)
def rf_sat (o idx a : Nat) : Bool := rf_isS a && (match rf_str[a - 1000000]? with
  | some q => q.1 == o && q.2.1 == idx
  | none => false)
theorem rf_sat_of {o idx a : Nat} (h : rf_sat o idx a = true) : rf_isS a = true ∧ ∃ tx, rf_str[a - 1000000]? = some (o, idx, tx) := by
  simp only [rf_sat, Bool.and_eq_true] at h
  refine ⟨h.1, ?_⟩
  have h2 := h.2
  split at h2
  · rename_i q hq
    simp only [Bool.and_eq_true, beq_iff_eq] at h2
    obtain ⟨rfl, rfl⟩ := h2
    exact ⟨q.2.2, hq⟩
  · cases h2
theorem rf_s_ldc (C : rf_Ctx o cc nL d sh K) (a : Nat) {idx : Nat} (ha : rf_sat o idx a = true) (hd : decode cc pc = .ok (.ldc idx, 2)) (k : rf_V nL sh K cells slots (pc + 2) (lv, .ref a :: st, M)) : rf_V nL sh K cells slots pc (lv, st, M) := by
  obtain ⟨p, l, e, R, s, m, args, below, meth, c, D, ad, cad, A, Q⟩ := K
  obtain ⟨hx, hb, hml, hown, hts, hK, hT, hA, hlk, hXs, hdf, hdl, hwf⟩ := C
  intro H locs ls hPw hD hS hl
  obtain ⟨h1, tx, h2⟩ := rf_sat_of ha
  obtain ⟨q, hq, hR, -⟩ := rf_X_str hXs h1
  rw [h2] at hq
  obtain rfl := Option.some.inj hq
  exact va_ldcS hx hb hown hR hd (k H locs ls hPw hD hS hl)
theorem rf_s_ldcw (C : rf_Ctx o cc nL d sh K) (a : Nat) {idx : Nat} (ha : rf_sat o idx a = true) (hd : decode cc pc = .ok (.ldc_w idx, 3)) (k : rf_V nL sh K cells slots (pc + 3) (lv, .ref a :: st, M)) : rf_V nL sh K cells slots pc (lv, st, M) := by
  obtain ⟨p, l, e, R, s, m, args, below, meth, c, D, ad, cad, A, Q⟩ := K
  obtain ⟨hx, hb, hml, hown, hts, hK, hT, hA, hlk, hXs, hdf, hdl, hwf⟩ := C
  intro H locs ls hPw hD hS hl
  obtain ⟨h1, tx, h2⟩ := rf_sat_of ha
  obtain ⟨q, hq, hR, -⟩ := rf_X_str hXs h1
  rw [h2] at hq
  obtain rfl := Option.some.inj hq
  intro T hT0 X
  obtain ⟨t, a1, b1⟩ := k H locs ls hPw hD hS hl T hT0 X
  exact ⟨t, X.ldcStringW hx hown hR.1 hR.2 (g := F0 m pc ls (st.map (rf_cv ad))) rfl (by rw [hb]; exact hd) t a1, b1⟩
end RFZ
