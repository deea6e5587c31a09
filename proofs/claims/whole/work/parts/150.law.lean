/-! the law's own frame: rules (by hand) -/
section RFLaw
def rf_LK (b L : Nat) (xs : Nat → Int32) (K : rf_K) : Prop := match K with
  | (_, l, _, _, s, _, _, _, _, _, _, ad, _, A, _) => ad 3000000 = b ∧ va_X b L xs s s.heap ∧ b < s.heap.size ∧ (¬ A b ∧ ∀ q, A q → s.heap.size ≤ q) ∧ l.stackTraces = false ∧ rf_Nx A s s.heap
def rf_LQ (b : Nat) (K : rf_K) : Prop := match K with
  | (_, _, _, R, s, _, args, below, meth, _, _, _, _, _, Q) => R = room_1 ∧ args = #[Value.ref b] ∧ meth.sig.returnType = ret ∧ ∃ (s0 : State) (d0 : Drawn), s = s0.setDrawn d0 ∧ s0.drawn.sameBut d0 lw_cs ∧ Q = lw_Z below #[Value.ref b] s0
/-- all that the law's walk keeps -/
def rf_LB (b L : Nat) (xs : Nat → Int32) (mc ms : Nat) (w : rf_w) (K : rf_K) : Prop := (rf_Ctx 32 code 7 300 (rf_sh w) K ∧ rf_AOk K ∧ rf_Rc K mc ms) ∧ rf_wok w ∧ rf_LK b L xs K ∧ rf_LQ b K
variable {b L mc ms : Nat} {xs : Nat → Int32} {w w' : rf_w} {K K' : rf_K} {cells slots pc : Nat} {lv : rf_L} {st : List Value} {M : rf_M}
theorem rf_LB_fit {x y : Nat} (B : rf_LB b L xs mc ms w K) (h1 : x ≤ mc) (h2 : y ≤ ms) : rf_Fit x y K := by
  have h4 := B.1.2.2
  obtain ⟨p, l, e, R, s, m, args, below, meth, c, D, ad, cad, A, Q⟩ := K
  exact ⟨Nat.le_trans h1 h4.1, Nat.le_trans h2 h4.2⟩
theorem rf_LB_gb (B : rf_LB b L xs mc ms w K) : rf_GB 32 code 7 300 mc ms (rf_sh w).1 K (rf_sh w) K := by
  refine ⟨B.1.1, ?_, B.1.2.1, B.1.2.2, rf_Ext_refl _ _, Nat.le_refl _⟩
  obtain ⟨p, l, e, R, s, m, args, below, meth, c, D, ad, cad, A, Q⟩ := K
  exact Or.inl rfl
theorem rf_LB_of (B : rf_LB b L xs mc ms w K) (G : rf_GB 32 code 7 300 mc ms (rf_sh w).1 K (rf_sh w') K') (hw' : rf_wok w') : rf_LB b L xs mc ms w' K' := by
  obtain ⟨-, -, hLK, hLQ⟩ := B
  obtain ⟨C, -, hAO, hRc, ⟨ad', cad', rfl, hag⟩, -⟩ := G
  obtain ⟨p, l, e, R, s, m, args, below, meth, c, D, ad, cad, A, Q⟩ := K
  refine ⟨⟨C, hAO, hRc⟩, hw', ?_, hLQ⟩
  obtain ⟨h1, h2⟩ := hLK
  exact ⟨(hag 3000000 (Or.inr (by decide))).1.trans h1, h2⟩
/-- a cell of the script -/
theorem rf_scr (B : rf_LB b L xs mc ms w K) {x v : Int32} (hin : vp_in x L ∧ xs x.toNatClampNeg = v) (hd : decode code pc = .ok (.iaload, 1)) (k : rf_V 7 (rf_sh w) K cells slots (pc + 1) (lv, .int v :: st, M)) : rf_V 7 (rf_sh w) K cells slots pc (lv, .int x :: .ref 3000000 :: st, M) := by
  obtain ⟨hin, rfl⟩ := hin
  obtain ⟨p, l, e, R, s, m, args, below, meth, c, D, ad, cad, A, Q⟩ := K
  obtain ⟨⟨⟨hx, hb, hml, hown, hts, hK, hT, hA, hlk, hXs, hdf, hdl, hwf⟩, -⟩, -, ⟨hb0, hX, hbl, hbA, -⟩, -⟩ := B
  intro H locs ls hPw hD hS hl
  show W p l e R s m args below meth c H locs cells slots Q (F0 m pc ls (.int x :: .ref (ad 3000000) :: st.map (rf_cv ad)))
  rw [hb0]
  exact va_sld hx hb hX hbl hbA.1 hS hin hd (k H locs ls hPw hD hS hl)
theorem rf_scl (B : rf_LB b L xs mc ms w K) (hd : decode code pc = .ok (.arraylength, 1)) (k : rf_V 7 (rf_sh w) K cells slots (pc + 1) (lv, .int (Int32.ofNat L) :: st, M)) : rf_V 7 (rf_sh w) K cells slots pc (lv, .ref 3000000 :: st, M) := by
  obtain ⟨p, l, e, R, s, m, args, below, meth, c, D, ad, cad, A, Q⟩ := K
  obtain ⟨⟨⟨hx, hb, hml, hown, hts, hK, hT, hA, hlk, hXs, hdf, hdl, hwf⟩, -⟩, -, ⟨hb0, hX, hbl, hbA, -⟩, -⟩ := B
  intro H locs ls hPw hD hS hl
  show W p l e R s m args below meth c H locs cells slots Q (F0 m pc ls (.ref (ad 3000000) :: st.map (rf_cv ad)))
  rw [hb0]
  exact va_slen hx hb hX hbl hbA.1 hS hd (k H locs ls hPw hD hS hl)
/-- != 0 as an argument -/
def rf_bz (v : Int32) : Int32 := if v = 0 then 0 else 1
theorem rf_bool {o nL d : Nat} {cc : ByteArray} {sh : rf_Sh} (C : rf_Ctx o cc nL d sh K) {v : Int32} (hd : decode cc pc = .ok (.ifCond .eq 7, 3) ∧ decode cc (pc + 3) = .ok (.iconst 1, 1) ∧ decode cc (pc + 4) = .ok (.goto 4, 3) ∧ decode cc (pc + 7) = .ok (.iconst 0, 1)) (k : rf_V nL sh K cells slots (pc + 8) (lv, .int (rf_bz v) :: st, M)) : rf_V nL sh K cells slots pc (lv, .int v :: st, M) := by
  obtain ⟨p, l, e, R, s, m, args, below, meth, c, D, ad, cad, A, Q⟩ := K
  obtain ⟨hx, hb, hml, hown, hts, hK, hT, hA, hlk, hXs, hdf, hdl, hwf⟩ := C
  intro H locs ls hPw hD hS hl
  have hk := k H locs ls hPw hD hS hl
  refine lv_if_eq (tgt := pc + 7) hx hb hd.1 (by omega) (fun h => ?_) (fun h => ?_)
  · refine lv_iconst (v := 0) hx hb hd.2.2.2 rfl ?_
    rw [show rf_bz v = 0 from if_pos h] at hk
    exact hk
  · refine lv_iconst (v := 1) hx hb hd.2.1 rfl ?_
    refine lv_goto (tgt := pc + 8) hx hb hd.2.2.1 (by omega) ?_
    rw [show rf_bz v = 1 from if_neg h] at hk
    exact hk
/-- a call of a method that may draw -/
theorem rf_callvD (B : rf_LB b L xs mc ms w K) (hf : rf_Fit cells slots K) (J : rf_J) {dc n idx a ci : Nat} {As rest stk : List Value} {v : Option Value} {M' : rf_M} (hm : rf_mv J (rf_R ci) n) (hM : rf_ConD J dc (rf_sh w) (.ref a :: As) M v M') (hdc : dc < 300) (ha : rf_at (rf_sh w) a = some (.inr ci)) (hci : ci < 15) (hlink : Cond.methodLink (rf_own 32) idx J.2.1 ∈ rf_WS) (hn : As.length = n) (hst : stk = As.reverse ++ .ref a :: rest) (hrest : (rest.map fun v => v.category).sum ≤ 8) (hd : decode code pc = .ok (.invokevirtual idx, 3))
    (k : ∀ K', rf_LB b L xs mc ms w K' → rf_V 7 (rf_sh w) K' cells slots (pc + 3) (lv, v.toList ++ rest, M')) : rf_V 7 (rf_sh w) K cells slots pc (lv, stk, M) := by
  subst hst
  have hBd := B
  obtain ⟨p, l, e, R, s, m, args, below, meth, c, D, ad, cad, A, Q⟩ := K
  have C0 := B.1.1
  obtain ⟨⟨⟨hx, hb, hml, hown, hts, hK, hT, hA, hlk, hXs, hdf, hdl, hwf⟩, hAO, hRc⟩, hw, ⟨hb0, hX, hbl, hbA, hst, hNx⟩, ⟨hR, hargs, hret, s0, d0, rfl, hd0, rfl⟩⟩ := B
  obtain ⟨yo, y, yc, yn, yr⟩ := J
  obtain ⟨⟨m1, m2, m3, m4⟩, m5, m6⟩ := hm
  intro H locs ls hPw hD hS hl
  have e0 : (As.reverse ++ Value.ref a :: rest).map (rf_cv ad) = (As.map (rf_cv ad)).reverse ++ Value.ref (ad a) :: rest.map (rf_cv ad) := by simp [rf_cv]
  have e1 : ((rest.map (rf_cv ad)).map fun v => v.category).sum ≤ 8 := by
    rw [List.map_map]
    simpa [Function.comp_def, rf_cat] using hrest
  have m6 : yn ≤ 45 := m6
  have hcw : CallW R (s0.setDrawn d0) args (rf_own 32) (rf_R ci) idx y yc yn yr (.code y yc yn yr :: rf_WS) (rf_rm dc 0 0) 0 0 n := ⟨callB_of n hts (rf_goodJ m4) rfl rfl rfl (hts _ m3) (hts _ hlink) m5 ⟨by show dc + 1 ≤ _; omega, by show 8 + (yn + 11) + 64 * dc ≤ _; omega⟩, hts _ m1, hts _ m2⟩
  have hsub : ∀ q, rf_A ad (rf_sh w).1 H.size q → A q := by
    intro q hq
    refine (hA q).mpr ?_
    rcases hq with h | h
    · exact Or.inl h
    · exact Or.inr (Nat.le_trans hS.1 h)
  have hr := va_runV_D (cells := cells) (slots := slots) (locs := locs) (e := e) (below := below) (meth := meth) (g := F0 m pc ls ((As.map (rf_cv ad)).reverse ++ Value.ref (ad a) :: rest.map (rf_cv ad))) (As := As.map (rf_cv ad)) (rest := rest.map (rf_cv ad)) ⟨hx, hb, hml, hown, hts⟩ (hM l D ad cad H.size) hcw ⟨rf_In_blind, va_recv hK hPw (rf_cl ci hci) (rf_ws_at hwf ha), rf_pre C0 hPw hD hS _⟩ rfl (by simpa using hn) hl.1 rfl (lv_room e1) hd hf
  show W p l e R (s0.setDrawn d0) m args below meth c H locs cells slots _ (F0 m pc ls ((As.reverse ++ Value.ref a :: rest).map (rf_cv ad)))
  rw [e0]
  intro T hT0 X
  obtain ⟨v', st₀, t, T', L9, d1, hd1, h0, X', hL, g1, g2, ⟨hv, hp, hz, hk⟩, stp⟩ := hr T hT0 X
  cases hv
  rw [h0] at hz hk
  have hS' : va_S A s0.heap T'.heap (locs ++ L9) := by
    refine ⟨by rw [g1]; exact Nat.le_trans hS.1 hz, fun q h1 h2 => ?_, fun x hx => ?_⟩
    · rw [g1, hk q (Nat.lt_of_lt_of_le h1 hS.1) (fun h => h2 (hsub q h))]
      exact hS.2.1 q h1 h2
    · rcases List.mem_append.mp hx with h | h
      · exact hS.2.2 x h
      · exact hsub _ (hL x h)
  have B' : rf_LB b L xs mc ms w (p, l, e, R, s0.setDrawn d1, m, args, below, meth, c, D, ad, cad, A, lw_Z below #[Value.ref b] s0) := ⟨⟨rf_ctx_d C0 d1, rf_AO_same (u := s0.setDrawn d0) (U := s0.setDrawn d1) hAO (Vm.Alike.refl _), hRc⟩, hw, ⟨hb0, va_X.moved (u := s0.setDrawn d0) (U := s0.setDrawn d1) (Vm.Alike.refl _) hX, hbl, hbA, hst, rf_Nx_same (u := s0.setDrawn d0) (U := s0.setDrawn d1) hNx rfl⟩, hR, hargs, hret, s0, d1, rfl, Drawn.sameBut.trans hd0 hd1, rfl⟩
  have hw9 := k _ B' T'.heap (locs ++ L9) ls (by show va_P D vwCl (rf_ws ad cad (rf_sh w) M') T'.heap; rw [g1]; exact hp) (rf_D_M hD) hS' hl
  obtain ⟨t2, a1, b1⟩ := hw9 T' rfl X'
  refine ⟨t2, stp t2 ?_, b1⟩
  have er : (v.toList ++ rest).map (rf_cv ad) = (v.map (rf_cv ad)).toList ++ rest.map (rf_cv ad) := by cases v <;> simp
  rw [show ((lv, v.toList ++ rest, M') : rf_S).2.1 = v.toList ++ rest from rfl, er] at a1
  exact a1
/-- the law's own led -/
theorem rf_callL (B : rf_LB b L xs mc ms w K) {dc : Nat} {a1 a2 : Int32} {v : Option Value} {M' : rf_M} (hM : rf_ConL dc (rf_sh w) [.ref 0, .int a1, .int a2, .ref 305] M v M') (hdc : dc < 300) (hpl : rf_plain v = true) (hc : cells + 1 ≤ mc) (hsl : slots + 6 ≤ ms) (hd : decode code pc = .ok (.invokestatic 79, 3))
    (k : rf_V 7 (rf_sh w) K (cells + 1) (slots + 6) (pc + 3) (lv, v.toList, M')) : rf_V 7 (rf_sh w) K cells slots pc (lv, [.ref 305, .int a2, .int a1, .ref 0], M) := by
  have hf := rf_LB_fit B hc hsl
  obtain ⟨p, l, e, R, s, m, args, below, meth, c, D, ad, cad, A, Q⟩ := K
  have C0 := B.1.1
  obtain ⟨⟨⟨hx, hb, hml, hown, hts, hK, hT, hA, hlk, hXs, hdf, hdl, hwf⟩, hAO, hRc⟩, hw, ⟨hb0, hX, hbl, hbA, hst, hNx⟩, -⟩ := B
  intro H locs ls hPw hD hS hl
  have hsub : ∀ q, rf_A ad (rf_sh w).1 H.size q → A q := by
    intro q hq
    refine (hA q).mpr ?_
    rcases hq with h | h
    · exact Or.inl h
    · exact Or.inr (Nat.le_trans hS.1 h)
  have hcw : vq_CSW R s args (rf_own 32) 79 yL_led cL_led 5 (some .int) [(0, 10, 13, 13)] (.codeWith yL_led cL_led 5 (some .int) [(0, 10, 13, 13)] :: rf_WS) (rf_rm dc 1 6) 1 6 4 := ⟨⟨rfl, rfl, by show dc + 1 ≤ _; omega, by show 8 + (5 + 11) + 64 * dc ≤ _; omega, pay_in hts (rf_goodJ (rf_mem 34 (by decide +kernel))), List.mem_cons_self⟩, hts _ (rf_mem 34 (by decide +kernel)), hts _ (rf_mem 34 (by decide +kernel)), ⟨by decide, by decide⟩, fun sig h => by have h2 : (parseMethodDescriptor yL_led.desc).map (fun d => d.parameters.length) = some 4 := (by decide +kernel); rw [h] at h2; exact (Option.some.inj h2).symm, hts _ (rf_mem 34 (by decide +kernel)), hts _ (rf_mem 34 (by decide +kernel))⟩
  have hpre : PreS s H (va_Pc ([Value.ref 0, .int a1, .int a2, .ref 305].map (rf_cv ad)) (rf_PreN D ad cad (rf_sh w) M H.size)) ([Value.ref 0, .int a1, .int a2, .ref 305].map (rf_cv ad)) := ⟨rf_PreN_blind, fun U hU hW => ⟨rfl, (rf_pre C0 hPw hD hS [] U hU hW).2, by rw [hU]; exact rf_Nx_to hNx hS hsub hW (fun w hw a => rf_exb_to hW.alike hw (hNx.2.2 w hw) a)⟩⟩
  have hr := vq_runSW (cells := cells) (slots := slots) (locs := locs) (e := e) (below := below) (meth := meth) (g := F0 m pc ls ([Value.ref (ad 305), .int a2, .int a1, .ref (ad 0)])) (As := [Value.ref 0, .int a1, .int a2, .ref 305].map (rf_cv ad)) (rest := []) ⟨hx, hb, hml, hown, hts⟩ (hM l D ad cad H.size hst) hcw hpre rfl rfl hl.1 rfl (lv_room (show (([] : List Value).map fun v => v.category).sum ≤ 8 by decide)) hd hf
  show W p l e R s m args below meth c H locs cells slots Q (F0 m pc ls [Value.ref (ad 305), .int a2, .int a1, .ref (ad 0)])
  intro T hT0 X
  obtain ⟨v', st₀, t, T', L9, h0, X', hL, g1, g2, ⟨hv, hp, hz, hk⟩, stp⟩ := hr T hT0 X
  cases hv
  rw [h0] at hz hk
  have hS' : va_S A s.heap T'.heap (locs ++ L9) := by
    refine ⟨by rw [g1]; exact Nat.le_trans hS.1 hz, fun q h1 h2 => ?_, fun x hx => ?_⟩
    · rw [g1, hk q (Nat.lt_of_lt_of_le h1 hS.1) (fun h => h2 (hsub q h))]
      exact hS.2.1 q h1 h2
    · rcases List.mem_append.mp hx with h | h
      · exact hS.2.2 x h
      · exact hsub _ (hL x h)
  have hw9 := k T'.heap (locs ++ L9) ls (by show va_P D vwCl (rf_ws ad cad (rf_sh w) M') T'.heap; rw [g1]; exact hp) (rf_D_M hD) hS' hl
  obtain ⟨t2, b1, b2⟩ := hw9 T' rfl X'
  refine ⟨t2, stp t2 ?_, b2⟩
  have er : v.toList.map (rf_cv ad) = (v.map (rf_cv ad)).toList ++ [] := by cases v <;> simp
  rw [show ((lv, v.toList, M') : rf_S).2.1 = v.toList from rfl, er] at b1
  exact b1
/-- the script's cells at a call -/
def rf_Sc (xs : Nat → Int32) (L : Nat) (i : Int32) (y : Nat → Int32) : Prop := (vp_in i L ∧ xs i.toNatClampNeg = y 0) ∧ (vp_in (i + 1) L ∧ xs (i + 1).toNatClampNeg = y 1) ∧ (vp_in (i + 2) L ∧ xs (i + 2).toNatClampNeg = y 2) ∧ (vp_in (i + 3) L ∧ xs (i + 3).toNatClampNeg = y 3) ∧ (vp_in (i + 4) L ∧ xs (i + 4).toNatClampNeg = y 4) ∧ (vp_in (i + 5) L ∧ xs (i + 5).toNatClampNeg = y 5) ∧ (vp_in (i + 6) L ∧ xs (i + 6).toNatClampNeg = y 6) ∧ (vp_in (i + 7) L ∧ xs (i + 7).toNatClampNeg = y 7) ∧ (vp_in (i + 8) L ∧ xs (i + 8).toNatClampNeg = y 8) ∧ (vp_in (i + 9) L ∧ xs (i + 9).toNatClampNeg = y 9)
end RFLaw

theorem rf_lv5 {w : rf_w} (hw : rf_wok w) {a4 : Int32} : ([(0, .ref 3000000), (1, .ref 0), (2, .ref 206), (3, .ref 305), (4, .int a4)] : rf_L).all (fun x => rf_br (rf_sh w).1 x.2) = true := by
  have hn := hw.1.1
  have h0 : rf_br w.1 (.ref 0) = true := rf_br_ref (by omega)
  have h1 : rf_br w.1 (.ref 206) = true := rf_br_ref (by omega)
  have h2 : rf_br w.1 (.ref 305) = true := rf_br_ref (by omega)
  have h3 : rf_br w.1 (.ref 3000000) = true := by
    show (Nat.ble (3000000 + 1) w.1 || Nat.ble 1000000 3000000) = true
    rw [show Nat.ble 1000000 3000000 = true from rfl, Bool.or_true]
  show ([(0, .ref 3000000), (1, .ref 0), (2, .ref 206), (3, .ref 305), (4, .int a4)] : rf_L).all (fun x => rf_br w.1 x.2) = true
  simp only [List.all_cons, List.all_nil, h0, h1, h2, h3, Bool.and_true, Bool.true_and]
  rfl
def rf_bw {β : Type} (o : Option (Int32 × rf_w × rf_m)) (k : Int32 → rf_w → rf_m → Option β) : Option β := match o with
  | none => none
  | some q => k q.1 q.2.1 q.2.2
theorem rf_bw_some {β : Type} {o : Option (Int32 × rf_w × rf_m)} {k : Int32 → rf_w → rf_m → Option β} {r : β} (h : rf_bw o k = some r) : ∃ q : Int32 × rf_w × rf_m, o = some q ∧ k q.1 q.2.1 q.2.2 = some r := by
  cases o with
  | none => cases h
  | some q => exact ⟨q, rfl, h⟩
def rf_l13 (k : Int32) (o : Int64) (z : Int32) : Bool := !(k == 0) || decide (lg_cmp o (Int32.toInt64 z) = 0)
theorem rf_l13_of {k : Int32} {o : Int64} {z : Int32} (h : rf_l13 k o z = true) (hk : k = 0) : lg_cmp o (Int32.toInt64 z) = 0 := by
  subst hk
  simpa [rf_l13] using h
-- the worlds that strike and rule leave
theorem rf_ite_some {α : Type} {c : Prop} {h : Decidable c} {a b : Option α} {r : α} (h : (if c then a else b) = some r) : (c ∧ a = some r) ∨ (¬ c ∧ b = some r) := by
  split at h
  · exact Or.inl ⟨‹_›, h⟩
  · exact Or.inr ⟨‹_›, h⟩
def rf_wgrow (w w' : rf_w) : Prop := rf_wok w' ∧ w.1 ≤ w'.1
theorem gw_strike_132 {w : rf_w} {a1 a3 : Int32} {m : rf_m} {r : Int32 × rf_w × rf_m} (h : g_X14_strike_132 w a1 a3 m = some r) : r.2.1 = w := by
  unfold g_X14_strike_132 at h
  obtain ⟨k0, _, h⟩ := rf_o_some h
  obtain ⟨k1, _, h⟩ := rf_o_some h
  obtain ⟨_, h⟩ := rf_g_some h
  obtain ⟨k3, _, h⟩ := rf_o_some h
  obtain ⟨k4, _, h⟩ := rf_o_some h
  obtain ⟨_, h⟩ := rf_g_some h
  obtain ⟨k6, _, h⟩ := rf_o_some h
  obtain ⟨k7, _, h⟩ := rf_o_some h
  rcases rf_ite_some h with ⟨_, h⟩ | ⟨_, h⟩
  · obtain ⟨_, h⟩ := rf_g_some h
    obtain ⟨y9, m9, _, h⟩ := rf_b_some h
    obtain ⟨_, h⟩ := rf_g_some h
    obtain rfl := Option.some.inj h
    rfl
  · obtain ⟨_, h⟩ := rf_g_some h
    obtain ⟨y11, m11, _, h⟩ := rf_b_some h
    obtain ⟨_, h⟩ := rf_g_some h
    obtain rfl := Option.some.inj h
    rfl
theorem gw_strike_126 {w : rf_w} {a1 a3 : Int32} {a4 : Nat} {m : rf_m} {r : Int32 × rf_w × rf_m} (h : h_X14_strike_126 w a1 a3 a4 m = some r) : r.2.1 = rf_wlog w a4 ∧ a4 < w.1 := by
  unfold h_X14_strike_126 at h
  obtain ⟨q, h⟩ := rf_g_some h
  exact ⟨gw_strike_132 h, Nat.le_of_ble_eq_true q⟩
theorem gw_strike_98 {w : rf_w} (n : Nat) : ∀ {a1 a3 : Int32} {a4 : Nat} {a5 : Int32} {m : rf_m} {r : Int32 × rf_w × rf_m}, g_X14_strike_98 w n a1 a3 a4 a5 m = some r → r.2.1 = rf_wlog w a4 ∧ a4 < w.1 := by
  induction n with
  | zero => intro a1 a3 a4 a5 m r h; cases h
  | succ n ih =>
    intro a1 a3 a4 a5 m r h
    have h : g_X14_strike_98_b w (g_X14_strike_98 w n) a1 a3 a4 a5 m = some r := h
    unfold g_X14_strike_98_b at h
    obtain ⟨k0, _, h⟩ := rf_o_some h
    obtain ⟨k1, _, h⟩ := rf_o_some h
    obtain ⟨k2, _, h⟩ := rf_o_some h
    rcases rf_ite_some h with ⟨_, h⟩ | ⟨_, h⟩
    · exact gw_strike_126 h
    · obtain ⟨k3, _, h⟩ := rf_o_some h
      obtain ⟨k4, _, h⟩ := rf_o_some h
      obtain ⟨_, h⟩ := rf_g_some h
      obtain ⟨_, h⟩ := rf_g_some h
      exact ih h
theorem gw_strike_84 {w : rf_w} (hw : rf_wok w) {a1 a3 : Int32} {m : rf_m} {r : Int32 × rf_w × rf_m} (h : h_X14_strike_84 w a1 a3 m = some r) : rf_wgrow w r.2.1 := by
  unfold h_X14_strike_84 at h
  obtain ⟨a, ha, h⟩ := rf_o_some h
  obtain ⟨n, hn, h⟩ := rf_o_some h
  obtain ⟨q1, h⟩ := rf_g_some h
  obtain ⟨q2, h⟩ := rf_g_some h
  have h2 := Nat.le_of_ble_eq_true q2
  obtain ⟨e, hl⟩ := gw_strike_98 _ h
  rw [e]
  exact ⟨rf_wlog_ok (rf_w1_ok hw (by omega) _ _) hl, Nat.le_succ _⟩
theorem gw_X14_strike {w : rf_w} (hw : rf_wok w) {a1 a2 a3 : Int32} {m : rf_m} {r : Int32 × rf_w × rf_m} (h : g_X14_strike_0 w a1 a2 a3 m = some r) : rf_wgrow w r.2.1 := by
  have h0 : rf_wgrow w w := ⟨hw, Nat.le_refl _⟩
  unfold g_X14_strike_0 at h
  obtain ⟨y0, m0, _, h⟩ := rf_b_some h
  rcases rf_ite_some h with ⟨_, h⟩ | ⟨_, h⟩
  · obtain ⟨y1, m1, _, h⟩ := rf_b_some h
    obtain ⟨_, h⟩ := rf_g_some h
    obtain rfl := Option.some.inj h
    exact h0
  · obtain ⟨y2, m2, _, h⟩ := rf_b_some h
    rcases rf_ite_some h with ⟨_, h⟩ | ⟨_, h⟩
    · obtain ⟨y12, m12, _, h⟩ := rf_b_some h
      obtain ⟨_, h⟩ := rf_g_some h
      obtain rfl := Option.some.inj h
      exact h0
    · obtain ⟨_, h⟩ := rf_g_some h
      rcases rf_ite_some h with ⟨_, h⟩ | ⟨_, h⟩
      · obtain ⟨y4, m4, _, h⟩ := rf_b_some h
        obtain ⟨_, h⟩ := rf_g_some h
        obtain rfl := Option.some.inj h
        exact h0
      · obtain ⟨_, h⟩ := rf_g_some h
        rcases rf_ite_some h with ⟨_, h⟩ | ⟨_, h⟩
        · obtain ⟨y6, m6, _, h⟩ := rf_b_some h
          obtain ⟨_, h⟩ := rf_g_some h
          obtain rfl := Option.some.inj h
          exact h0
        · obtain ⟨_, h⟩ := rf_g_some h
          rcases rf_ite_some h with ⟨_, h⟩ | ⟨_, h⟩
          · obtain ⟨y11, m11, _, h⟩ := rf_b_some h
            obtain ⟨_, h⟩ := rf_g_some h
            obtain rfl := Option.some.inj h
            exact h0
          · obtain ⟨_, h⟩ := rf_g_some h
            obtain ⟨k9, _, h⟩ := rf_o_some h
            obtain ⟨k10, _, h⟩ := rf_o_some h
            rcases rf_ite_some h with ⟨_, h⟩ | ⟨_, h⟩
            · exact gw_strike_84 hw h
            · exact (gw_strike_132 h) ▸ h0
theorem gw_rule_145 {w : rf_w} {m : rf_m} {r : Int32 × rf_w × rf_m} (h : g_X14_rule_145 w m = some r) : r.2.1 = w := by
  unfold g_X14_rule_145 at h
  obtain ⟨_, _, _, h⟩ := rf_b_some h
  obtain rfl := Option.some.inj h
  rfl
theorem gw_rule_121 {w : rf_w} (hw : rf_wok w) {m : rf_m} {r : Int32 × rf_w × rf_m} (h : h_X14_rule_121 w m = some r) : rf_wgrow w r.2.1 := by
  unfold h_X14_rule_121 at h
  obtain ⟨a, ha, h⟩ := rf_o_some h
  obtain ⟨q1, h⟩ := rf_g_some h
  obtain ⟨q2, h⟩ := rf_g_some h
  obtain ⟨q3, h⟩ := rf_g_some h
  rw [gw_rule_145 h]
  exact ⟨rf_wrule_ok hw (Nat.le_of_ble_eq_true q3) _, Nat.le_add_right w.1 3⟩
theorem gw_X14_rule {w : rf_w} (hw : rf_wok w) {a1 a2 a3 : Int32} {m : rf_m} {r : Int32 × rf_w × rf_m} (h : g_X14_rule_0 w a1 a2 a3 m = some r) : rf_wgrow w r.2.1 := by
  have h0 : rf_wgrow w w := ⟨hw, Nat.le_refl _⟩
  have h90 : ∀ {a2 a3 : Int32} {m : rf_m}, g_X14_rule_90 w a2 a3 m = some r → rf_wgrow w r.2.1 := by
    intro a2 a3 m h
    unfold g_X14_rule_90 at h
    rcases rf_ite_some h with ⟨_, h⟩ | ⟨_, h⟩
    · obtain ⟨y12, m12, _, h⟩ := rf_b_some h
      obtain rfl := Option.some.inj h
      exact h0
    · obtain ⟨k0, _, h⟩ := rf_o_some h
      obtain ⟨_, h⟩ := rf_g_some h
      obtain ⟨_, h⟩ := rf_g_some h
      obtain ⟨_, h⟩ := rf_g_some h
      obtain ⟨_, h⟩ := rf_g_some h
      obtain ⟨_, h⟩ := rf_g_some h
      obtain ⟨k6, _, h⟩ := rf_o_some h
      obtain ⟨_, h⟩ := rf_g_some h
      obtain ⟨_, h⟩ := rf_g_some h
      obtain ⟨_, h⟩ := rf_g_some h
      obtain ⟨_, h⟩ := rf_g_some h
      obtain ⟨_, h⟩ := rf_g_some h
      exact gw_rule_121 hw h
  have h63 : ∀ {m : rf_m}, g_X14_rule_63 w m = some r → rf_wgrow w r.2.1 := by
    intro m h
    unfold g_X14_rule_63 at h
    obtain rfl := Option.some.inj h
    exact h0
  have h56 : ∀ {a2 a3 : Int32} {m : rf_m}, h_X14_rule_56 w a2 a3 m = some r → rf_wgrow w r.2.1 := by
    intro a2 a3 m h
    unfold h_X14_rule_56 at h
    split at h
    · cases h
    · exact h90 h
    · exact h63 h
  unfold g_X14_rule_0 at h
  rcases rf_ite_some h with ⟨_, h⟩ | ⟨_, h⟩
  · obtain ⟨y0, m0, _, h⟩ := rf_b_some h
    obtain rfl := Option.some.inj h
    exact h0
  · rcases rf_ite_some h with ⟨_, h⟩ | ⟨_, h⟩
    · obtain ⟨y1, m1, _, h⟩ := rf_b_some h
      obtain rfl := Option.some.inj h
      exact h0
    · obtain ⟨y2, m2, _, h⟩ := rf_b_some h
      rcases rf_ite_some h with ⟨_, h⟩ | ⟨_, h⟩
      · obtain ⟨y3, m3, _, h⟩ := rf_b_some h
        obtain rfl := Option.some.inj h
        exact h0
      · obtain ⟨y4, m4, _, h⟩ := rf_b_some h
        rcases rf_ite_some h with ⟨_, h⟩ | ⟨_, h⟩
        · obtain ⟨y5, m5, _, h⟩ := rf_b_some h
          obtain rfl := Option.some.inj h
          exact h0
        · exact h56 h
