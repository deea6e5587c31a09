/-! led: the class throws NoSuchElementException, the law's own led catches it (written by wip/tool/gen_led.py) -/
section RFE
def rf_ex : String := "java/util/NoSuchElementException"
def rf_exn : List String := ["java/lang/RuntimeException", "java/lang/Exception"]
def rf_exa : List Cond := vq_at0 (rf_own 11) 234 rf_ex rf_exn
/-- words that the tables alone decide -/
def rf_exb : List Cond := rf_exa.filter (fun w => !goodWord w)
def rf_exc : List Cond := rf_ch.getD 0 [] ++ (rf_xw0 ++ (rf_xw1 ++ rf_xw2))
theorem rf_exc_in : ∀ w ∈ rf_exc, w ∈ rf_WS := by
  intro w hw
  rcases List.mem_append.mp hw with h | h
  · exact rf_mem 0 h
  · rcases List.mem_append.mp h with h | h
    · exact rf_mem 114 h
    · rcases List.mem_append.mp h with h | h
      · exact rf_mem 115 h
      · exact rf_mem 116 h
set_option maxRecDepth 20000 in
theorem rf_exg0 : (rf_exa.filter goodWord).all (fun w => decide (w ∈ rf_exc)) = true := by decide +kernel
theorem rf_exg : ∀ w ∈ rf_exa.filter goodWord, w ∈ rf_WS := fun w hw => rf_exc_in w (of_decide_eq_true (List.all_eq_true.mp rf_exg0 w hw))
theorem rf_exk : Cond.classLink (rf_own 11) 232 rf_ex ∈ rf_WS := (rf_mem 34 (by decide +kernel))
set_option maxRecDepth 20000 in
theorem rf_exi : Cond.initialized rf_ex ∈ rf_WS := rf_exc_in _ (by decide +kernel)
set_option maxRecDepth 20000 in
theorem rf_exo : ∀ w ∈ Cond.classLink (rf_own 11) 232 rf_ex :: Cond.initialized rf_ex :: rf_exa, vq_ot w = true := by decide +kernel
theorem rf_exbi : ∀ w ∈ rf_exb, w = Cond.castable rf_ex rf_ex ∨ w = Cond.declares ⟨"java/lang/RuntimeException", "<init>", "()V"⟩ ∨ w = Cond.declares ⟨"java/lang/Exception", "<init>", "()V"⟩ ∨ w = Cond.declares ⟨"java/lang/Throwable", "<init>", "()V"⟩ := by decide +kernel
theorem rf_decl_w {s U : State} {a a' : Array Value} {x : MethodName} (h : (Cond.declares x).before a s = true) (hal : s.vm.Alike U.vm) : (Cond.declares x).before a' U = true := by
  have e1 : (Cond.declares x).before a' (U.setVm U.vm) = (Cond.declares x).before a (s.setVm U.vm) := Cond.onTables_vm U.vm _ rfl
  have e2 := Cond.declares_setVm (args := a) hal x
  exact (e1.trans e2).trans h
theorem rf_cast_w {s U : State} {a a' : Array Value} {X Y : String} (h : (Cond.castable X Y).before a s = true) (hal : s.vm.Alike U.vm) : (Cond.castable X Y).before a' U = true := by
  have e1 : U.vm.findClass X = s.vm.findClass X := hal.findClass ..
  have e2 : U.vm.findClass Y = s.vm.findClass Y := hal.findClass ..
  simp only [Cond.before, Cond.holds, Cond.value] at h ⊢
  rw [e1, e2]
  cases ha : s.vm.findClass X with
  | none => simp [ha] at h
  | some x =>
    cases hb : s.vm.findClass Y with
    | none => simp [ha, hb] at h
    | some y =>
      have e3 : U.vm.assignable x y = s.vm.assignable x y := hal.assignable ..
      simp only [ha, hb] at h ⊢
      rw [e3]; exact h
theorem rf_exb_to {s U : State} (hal : s.vm.Alike U.vm) {w : Cond} (hw : w ∈ rf_exb) (h : ∀ a, w.before a s = true) : ∀ a, w.before a U = true := by
  intro a
  have h1 := h a
  rcases rf_exbi w hw with e | e | e | e
  · rw [e] at h1 ⊢; exact rf_cast_w h1 hal
  · rw [e] at h1 ⊢; exact rf_decl_w h1 hal
  · rw [e] at h1 ⊢; exact rf_decl_w h1 hal
  · rw [e] at h1 ⊢; exact rf_decl_w h1 hal
/-- what a throw needs beside -/
def rf_Nx (A : Nat → Prop) (U : State) (H : Heap) : Prop := vq_Zq Bundle.tN "UNASSIGNED_STACK" Bundle.steD A U H ∧ vq_Zq Bundle.tN "SUPPRESSED_SENTINEL" Bundle.listD A U H ∧ ∀ w ∈ rf_exb, ∀ a, w.before a U = true
theorem rf_Nx_to {A B : Nat → Prop} {s U : State} {H : Heap} {locs : List Loc} (h : rf_Nx A s s.heap) (hS : va_S A s.heap H locs) (hB : ∀ q, B q → A q) (hW : s.WarmedH U.vm) (hb : ∀ w ∈ rf_exb, ∀ a, w.before a U = true) : rf_Nx B U H := ⟨((h.1.kept hS.2.1).moved hW.alike).narrow hB, ((h.2.1.kept hS.2.1).moved hW.alike).narrow hB, hb⟩
def rf_PreN (D : va_G) (ad : Nat → Nat) (cad : Nat → ClassId) (sh : rf_Sh) (M : rf_M) (sz : Nat) (U : State) : Prop := rf_In D ad cad sh M sz U ∧ rf_Nx (rf_A ad sh.1 sz) U U.heap
theorem rf_Nx_same {A : Nat → Prop} {u U : State} {H : Heap} (h : rf_Nx A u H) (hv : U.vm = u.vm) : rf_Nx A U H := by
  have ha : u.vm.Alike U.vm := by rw [hv]; exact Vm.Alike.refl _
  exact ⟨h.1.moved ha, h.2.1.moved ha, fun w hw a => rf_exb_to ha hw (h.2.2 w hw) a⟩
theorem rf_PreN_blind {D : va_G} {ad : Nat → Nat} {cad : Nat → ClassId} {sh : rf_Sh} {M : rf_M} {sz : Nat} {av : List Value} : FrameBlind (va_Pc av (rf_PreN D ad cad sh M sz)) := by
  intro a' U g mk q
  obtain ⟨q0, q1, q2⟩ := q
  exact ⟨q0, (rf_In_blind (av := av) a' U g mk ⟨q0, q1⟩).2, rf_Nx_same (u := U) (U := U.calling g mk a') q2 rfl⟩
abbrev rf_Rn : Type := (Int32 × rf_M) ⊕ rf_M
def rf_QN (D : va_G) (ad : Nat → Nat) (cad : Nat → ClassId) (sh : rf_Sh) (r : rf_Rn) (A : Nat → Prop) : Array Value → State → Outcome → State → Prop := match r with
  | .inl q => rf_Q D ad cad sh (some (.int q.1)) q.2 A
  | .inr _ => fun _ _ _ _ => False
def rf_XN (D : va_G) (ad : Nat → Nat) (cad : Nat → ClassId) (sh : rf_Sh) (r : rf_Rn) (A : Nat → Prop) : String → Nat → State → State → Prop := match r with
  | .inl _ => fun _ _ _ _ => False
  | .inr M' => fun E _ st t => E = rf_ex ∧ va_P D vwCl (rf_ws ad cad sh M') t.heap ∧ va_F A st t
def rf_EndN (ret : Option FieldType) (K : rf_K) (sh : rf_Sh) (r : rf_Rn) : Prop := match K with
  | (_, _, _, _, s, _, args, below, meth, _, D, ad, cad, A, Q) => meth.sig.returnType = ret ∧ Q = vq_MQ below (rf_QN D ad cad sh r A) (rf_XN D ad cad sh r A) args s 1 6 A
def rf_NK (K : rf_K) : Prop := match K with
  | (_, l, _, R, s, _, _, _, _, c, _, _, _, A, _) => l.stackTraces = false ∧ rf_Nx A s s.heap ∧ (∀ x ∈ c.exceptionTable.toList, False) ∧ 1 ≤ R.cells ∧ 6 ≤ R.slots
variable {o nL d : Nat} {cc : ByteArray} {sh : rf_Sh} {cells slots pc : Nat} {K : rf_K} {lv : rf_L} {st : List Value} {M : rf_M}
theorem rf_iretN (C : rf_Ctx o cc nL d sh K) {x : Int32} (hE : rf_EndN (some .int) K sh (.inl (x, M))) (hd : decode cc pc = .ok (.ireturn, 1)) : rf_V nL sh K 0 0 pc (lv, [.int x], M) := by
  refine rf_V_wide (c' := 1) (s' := 6) (Nat.zero_le _) (Nat.zero_le _) ?_
  obtain ⟨p, l, e, R, s, m, args, below, meth, c, D, ad, cad, A, Q⟩ := K
  obtain ⟨hx, hb, hml, hown, hts, hK, hT, hA, hlk, hXs, hdf, hdl, hwf⟩ := C
  obtain ⟨hr, rfl⟩ := hE
  intro H locs ls hPw hD hS hl
  exact vq_ret (W.iret hx hb hr (fun t ht hW => ⟨rfl, by rw [ht]; exact hPw, hS.F ht⟩) hS.2.2 hd hlk)
theorem rf_throwN (C : rf_Ctx 11 cc nL d sh K) (hd6 : 6 ≤ d) (hN : rf_NK K) {ret : Option FieldType} (hE : rf_EndN ret K sh (.inr M)) (d0 : decode cc pc = .ok (.new 232, 3)) (d3 : decode cc (pc + 3) = .ok (.dup, 1)) (d4 : decode cc (pc + 4) = .ok (.invokespecial 234, 3)) (d7 : decode cc (pc + 7) = .ok (.athrow, 1)) : rf_V nL sh K 0 0 pc (lv, [], M) := by
  obtain ⟨p, l, e, R, s, m, args, below, meth, c, D, ad, cad, A, Q⟩ := K
  obtain ⟨hx, hb, hml, hown, hts, hK, hT, hA, hlk, hXs, hdf, hdl, hwf⟩ := C
  obtain ⟨hr, rfl⟩ := hE
  obtain ⟨hst, ⟨hU, hNn, hB⟩, hno, hc1, hs6⟩ := hN
  intro H locs ls hPw hD hS hl
  exact vq_throw0 (cls := rf_ex) (names := rf_exn) (ik := 232) (ic := 234) (A := A) hx hb hst hown (by decide) (by decide) (hts _ rf_exk) (hts _ rf_exi) (vq_hat (fun w hw => hts w (rf_exg w hw)) (fun _ h => h) (fun w hw => hB w hw args)) rf_exo hU hNn hS (hl.1.trans hml.symm) d0 d3 d4 d7 (fun x hx => (hno x hx).elim) (by show 2 + 3 < R.frames; omega) (by show 0 + (13 * (2 + 1) + 42) ≤ R.locals; omega) (by omega) (by omega) hlk
    (fun q9 t hal hsz hq => ⟨rfl, hPw.kept (fun k q hk => hq q.1 (hPw k q hk).lt), ⟨Nat.le_trans hS.1 hsz, fun q h1 h2 => (hq q (Nat.lt_of_lt_of_le h1 hS.1)).trans (hS.2.1 q h1 h2)⟩⟩) hS.2.2 (by omega) (by omega)
def rf_ConN (J : rf_J) (d : Nat) (sh : rf_Sh) (args : List Value) (M : rf_M) (r : rf_Rn) : Prop := ∀ (l : Launch) (D : va_G) (ad : Nat → Nat) (cad : Nat → ClassId) (sz : Nat), l.stackTraces = false → vq_Met l J.2.1 (.code J.2.1 J.2.2.1 J.2.2.2.1 J.2.2.2.2 :: rf_WS) (rf_rm d 1 6) (va_Pc (args.map (rf_cv ad)) (rf_PreN D ad cad sh M sz)) (rf_QN D ad cad sh r (rf_A ad sh.1 sz)) (rf_XN D ad cad sh r (rf_A ad sh.1 sz)) 1 6 (rf_A ad sh.1 sz)
theorem rf_conN (J : rf_J) (d : Nat) {sh : rf_Sh} {args : List Value} {M : rf_M} {r : rf_Rn} (hJ : plainName J.2.1.cls = true ∧ J.2.1.cls = rf_own J.1 ∧ (lg_sl args).length ≤ J.2.2.2.1)
    (h : ∀ K : rf_K, rf_Ctx J.1 J.2.2.1 J.2.2.2.1 d sh K → rf_NK K → rf_EndN J.2.2.2.2 K sh r → rf_V J.2.2.2.1 sh K 0 0 0 (lv_args 0 args, [], M)) : rf_ConN J d sh args M r := by
  intro l D ad cad sz hst
  obtain ⟨o, y, cc, nL, ret⟩ := J
  obtain ⟨hpl, hcls, hlen⟩ := hJ
  refine vq_ofW (cc := cc) (maxL := nL) (ret := ret) hpl rfl ?_
  intro p e s m args' below meth c s₁ B hml hno hv
  obtain ⟨rfl, ⟨hsz, hPw, hK, hT, hD0, hX, hwf⟩, hNx⟩ := hv
  have hts := atoms_spec (ws := .code y cc nL ret :: rf_WS) B.pre
  have hown : s.vm.findClass y.cls = some m.cls := findClass_of_methodNamed B.named
  subst hsz
  have hA : ∀ q, rf_A ad sh.1 s.heap.size q ↔ rf_A ad sh.1 s.heap.size q := fun _ => Iff.rfl
  have hV := h (p, l, e, rf_rm d 1 6, s, m, _, below, meth, c, D, ad, cad, rf_A ad sh.1 s.heap.size, _)
    ⟨B.exec, B.bytes, hml, by rw [← hcls]; exact hown, fun w hw => hts w (List.mem_cons_of_mem _ hw), hK, hT, hA, B.notSynchronized, hX, Nat.le_refl d, Nat.le_refl _, hwf⟩ ⟨hst, hNx, hno, Nat.le_refl _, Nat.le_refl _⟩ ⟨B.returns, rfl⟩
  have hl := lv_entry (args.map (rf_cv ad)) (n := nL) (by rw [rf_sl_len]; exact hlen)
  rw [rf_lc_args] at hl
  rw [lg_entry_eq]
  exact hV s.heap [] _ hPw (rf_D_A hD0 hA) va_S.rf hl
end RFE
def rf_rn (w : rf_w) (r : (Int32 × rf_m) ⊕ rf_m) : rf_Rn := match r with
  | .inl q => .inl (q.1, rf_MM w q.2)
  | .inr m => .inr (rf_MM w m)
def h_X11_led_11 (_ : rf_w) (m : rf_m) : Option ((Int32 × rf_m) ⊕ rf_m) := some (.inr m)
theorem t_X11_led_11 {w : rf_w} {K : rf_K} {r : (Int32 × rf_m) ⊕ rf_m} (C : rf_Ctx 11 cX11_led 4 8 (rf_sh w) K ∧ rf_NK K) (hE : rf_EndN (some .int) K (rf_sh w) (rf_rn w r)) (m : rf_m) (hg : h_X11_led_11 w m = some r) : rf_V 4 (rf_sh w) K 0 0 11 ([(0, .ref 0)], [], rf_MM w m) := by
  obtain rfl := Option.some.inj hg
  exact rf_throwN C.1 (by decide) C.2 hE (by decide +kernel) (by decide +kernel) (by decide +kernel) (by decide +kernel)
def h_X11_led_42 (_ : rf_w) (m : rf_m) : Option ((Int32 × rf_m) ⊕ rf_m) := some (.inr m)
theorem t_X11_led_42 {w : rf_w} {K : rf_K} {r : (Int32 × rf_m) ⊕ rf_m} (C : rf_Ctx 11 cX11_led 4 8 (rf_sh w) K ∧ rf_NK K) (hE : rf_EndN (some .int) K (rf_sh w) (rf_rn w r)) (m : rf_m) (hg : h_X11_led_42 w m = some r) : rf_V 4 (rf_sh w) K 0 0 42 ([(0, .ref 0)], [], rf_MM w m) := by
  obtain rfl := Option.some.inj hg
  exact rf_throwN C.1 (by decide) C.2 hE (by decide +kernel) (by decide +kernel) (by decide +kernel) (by decide +kernel)
def g_X11_led_0 (w : rf_w) (a1 : Int32) (a2 : Int32) (m : rf_m) : Option ((Int32 × rf_m) ⊕ rf_m) := rf_b (g_X3_isAngle w m a1) fun y0 m0 => (if y0 = 0 then h_X11_led_11 w m0 else rf_bv (g_X3_freshen w m0 a1) fun m1 => rf_b (g_X3_keptAt w m1 a1 a2) fun y2 m2 => (if y2 = ((-1)) then h_X11_led_42 w m2 else some (.inl (y2, m2))))
theorem s_X11_led_0 {w : rf_w} {K : rf_K} {r : (Int32 × rf_m) ⊕ rf_m} (C : rf_Ctx 11 cX11_led 4 8 (rf_sh w) K ∧ rf_NK K) (hE : rf_EndN (some .int) K (rf_sh w) (rf_rn w r)) (a1 : Int32) (a2 : Int32) (m : rf_m) (hg : g_X11_led_0 w a1 a2 m = some r) : rf_V 4 (rf_sh w) K 0 0 0 ([(0, .ref 0), (1, .int a1), (2, .int a2)], [], rf_MM w m) := by
  unfold g_X11_led_0 at hg
  refine rf_seg C.1 [(.aload 0, 1), (.invokeinterface 11 2, 3), (.iload 1, 1)] (pc' := 5) (S' := ([(0, .ref 0), (1, .int a1), (2, .int a2)], [.int a1, .ref 26], rf_MM w m)) (by decide +kernel) rfl trivial ?_
  obtain ⟨y0, m0, hc0, hg⟩ := rf_b_some hg
  refine rf_callv C.1 rf_fit0 j_X3_isAngle (ci := 3) (As := [.int a1]) (rest := []) mw_X3_isAngle (c_X3_isAngle hc0) (by decide) rfl (by decide) lk_11_167 rfl rfl (Nat.le_of_ble_eq_true rfl) (by decide +kernel) ?_
  show rf_V 4 (rf_sh w) K 0 0 8 ([(0, .ref 0), (1, .int a1), (2, .int a2)], [.int y0], rf_MM w m0)
  refine rf_if_ne C.1 11 19 (by decide +kernel) (fun hc => ?_) (fun hc => ?_)
  · replace hg := (if_neg hc).symm.trans hg
    refine rf_seg C.1 [(.aload 0, 1), (.invokeinterface 11 2, 3), (.iload 1, 1)] (pc' := 24) (S' := ([(0, .ref 0), (1, .int a1), (2, .int a2)], [.int a1, .ref 26], rf_MM w m0)) (by decide +kernel) rfl trivial ?_
    obtain ⟨m1, hc1, hg⟩ := rf_bv_some hg
    refine rf_callv C.1 rf_fit0 j_X3_freshen (ci := 3) (As := [.int a1]) (rest := []) mw_X3_freshen (c_X3_freshen hc1) (by decide) rfl (by decide) lk_11_193 rfl rfl (Nat.le_of_ble_eq_true rfl) (by decide +kernel) ?_
    show rf_V 4 (rf_sh w) K 0 0 27 ([(0, .ref 0), (1, .int a1), (2, .int a2)], [], rf_MM w m1)
    refine rf_seg C.1 [(.aload 0, 1), (.invokeinterface 11 2, 3), (.iload 1, 1), (.iload 2, 1)] (pc' := 33) (S' := ([(0, .ref 0), (1, .int a1), (2, .int a2)], [.int a2, .int a1, .ref 26], rf_MM w m1)) (by decide +kernel) rfl trivial ?_
    obtain ⟨y2, m2, hc2, hg⟩ := rf_b_some hg
    refine rf_callv C.1 rf_fit0 j_X3_keptAt (ci := 3) (As := [.int a1, .int a2]) (rest := []) mw_X3_keptAt (c_X3_keptAt hc2) (by decide) rfl (by decide) lk_11_235 rfl rfl (Nat.le_of_ble_eq_true rfl) (by decide +kernel) ?_
    show rf_V 4 (rf_sh w) K 0 0 36 ([(0, .ref 0), (1, .int a1), (2, .int a2)], [.int y2], rf_MM w m2)
    refine rf_seg C.1 [(.istore 3, 1), (.iload 3, 1), (.iconst (-1), 1)] (pc' := 39) (S' := ([(3, .int y2), (0, .ref 0), (1, .int a1), (2, .int a2)], [.int ((-1)), .int y2], rf_MM w m2)) (by decide +kernel) rfl trivial ?_
    refine rf_icmp_ne C.1 11 50 (by decide +kernel) (fun hc => ?_) (fun hc => ?_)
    · replace hg := (if_neg hc).symm.trans hg
      refine rf_seg C.1 [(.iload 3, 1)] (pc' := 51) (S' := ([(3, .int y2), (0, .ref 0), (1, .int a1), (2, .int a2)], [.int y2], rf_MM w m2)) (by decide +kernel) rfl trivial ?_
      obtain rfl := Option.some.inj hg
      exact rf_iretN C.1 hE (by decide +kernel)
    · replace hg := (if_pos hc).symm.trans hg
      refine rf_few [1] rfl ?_
      exact t_X11_led_42 C hE m2 hg
  · replace hg := (if_pos hc).symm.trans hg
    refine rf_few [0] rfl ?_
    exact t_X11_led_11 C hE m0 hg
abbrev j_X11_led : rf_J := (11, yX11_led, cX11_led, 4, (some .int))
theorem mw_X11_led : rf_mv j_X11_led (rf_R 11) 2 := ⟨⟨(rf_mem 34 (by decide +kernel)), (rf_mem 34 (by decide +kernel)), (rf_mem 0 (by decide +kernel)), (rf_mem 34 (by decide +kernel))⟩, by decide +kernel, by decide⟩
theorem c_X11_led {w : rf_w} {m : rf_m} {a1 a2 : Int32} {r : (Int32 × rf_m) ⊕ rf_m} (hg : g_X11_led_0 w a1 a2 m = some r) : rf_ConN j_X11_led 8 (rf_sh w) [.ref 0, .int a1, .int a2] (rf_MM w m) (rf_rn w r) := by
  refine rf_conN j_X11_led 8 ⟨by decide +kernel, rfl, Nat.le_of_ble_eq_true rfl⟩ (fun K C hN hE => ?_)
  exact s_X11_led_0 ⟨C, hN⟩ hE a1 a2 m hg
-- the law's own led
section RFM
variable {o nL d : Nat} {cc : ByteArray} {sh : rf_Sh} {cells slots pc : Nat} {K : rf_K} {lv : rf_L} {st : List Value} {M : rf_M}
/-- the words that a catching of the class's exception needs beside those of a throw -/
def rf_NKl (K : rf_K) : Prop := match K with
  | (_, l, _, R, s, _, args, _, _, c, _, _, _, A, _) => l.stackTraces = false ∧ rf_Nx A s s.heap ∧ c.exceptionTable.toList = tableOf [(0, 10, 13, 13)] ∧ 1 ≤ R.cells ∧ 6 ≤ R.slots ∧ (Cond.castable rf_ex rf_ex).before args s = true
theorem rf_excast : Cond.castable rf_ex rf_ex ∈ rf_exa := by decide +kernel
theorem rf_ledcall (C : rf_Ctx 32 cL_led 5 d sh K) (hN : rf_NKl K) {dc : Nat} (hdc : dc < d) {a1 a2 : Int32} {r : rf_Rn} (hM : rf_ConN j_X11_led dc sh [.ref 0, .int a1, .int a2] M r) (ha : rf_at sh 0 = some (.inr 11)) {lv : rf_L} {rest : List Value} (hrest : (rest.map fun v => v.category).sum ≤ 8)
    (kn : ∀ q, r = .inl q → rf_V 5 sh K 1 6 8 (lv, .int q.1 :: rest, q.2))
    (kx : ∀ M', r = .inr M' → ∀ (a : Nat) (H : Heap) (locs : List Loc) (ls : Array Slot), (match K with
      | (p, l, e, R, s, m, args, below, meth, c, D, ad, cad, A, Q) => va_P D vwCl (rf_ws ad cad sh M') H → va_D A (rf_ws ad cad sh M') → va_S A s.heap H locs → lv_has ls 5 (rf_lc ad lv) → W p l e R s m args below meth c H locs 1 6 Q (F0 m 13 ls [.ref a]))) : rf_V 5 sh K 0 0 5 (lv, .int a2 :: .int a1 :: .ref 0 :: rest, M) := by
  obtain ⟨p, l, e, R, s, m, args, below, meth, c, D, ad, cad, A, Q⟩ := K
  have C0 := C
  obtain ⟨hx, hb, hml, hown, hts, hK, hT0, hA, hlk, hXs, hdf, hdl, hwf⟩ := C
  obtain ⟨hst, hNx, htab, hc1, hs6, hcast⟩ := hN
  obtain ⟨⟨m1, m2, m3, m4⟩, m5, m6⟩ := mw_X11_led
  intro H locs ls hPw hD hS hl
  have e1 : ((rest.map (rf_cv ad)).map fun v => v.category).sum ≤ 8 := by
    rw [List.map_map]
    simpa [Function.comp_def, rf_cat] using hrest
  have hsub : ∀ z, rf_A ad sh.1 H.size z → A z := by
    intro z hz
    refine (hA z).mpr ?_
    rcases hz with h | h
    · exact Or.inl h
    · exact Or.inr (Nat.le_trans hS.1 h)
  have hw : CallW R s args (rf_own 32) (rf_R 11) 7 yX11_led cX11_led 4 (some .int) (.code yX11_led cX11_led 4 (some .int) :: rf_WS) (rf_rm dc 1 6) 1 6 2 := ⟨callB_of 2 hts (rf_goodJ m4) rfl rfl rfl (hts _ m3) (hts _ (rf_mem 34 (by decide +kernel))) m5 ⟨by show dc + 1 ≤ _; omega, by show 8 + (4 + 11) + 64 * dc ≤ _; omega⟩, hts _ m1, hts _ m2⟩
  have hrun := vq_runV (cells := 0) (slots := 0) (H := H) (locs := locs) (g := F0 m 5 ls ([.int a1, .int a2].reverse ++ Value.ref (ad 0) :: rest.map (rf_cv ad))) (As := [.int a1, .int a2]) (rest := rest.map (rf_cv ad)) ⟨hx, hb, hml, hown, hts⟩ (hM l D ad cad H.size hst) hw ⟨rf_PreN_blind, va_recv hK hPw (rf_cl 11 (by decide)) (rf_ws_at hwf ha), fun U hU hW => ⟨rfl, (rf_pre C0 hPw hD hS [] U hU hW).2, by rw [hU]; exact rf_Nx_to hNx hS hsub hW (fun w hw a => rf_exb_to hW.alike hw (hNx.2.2 w hw) a)⟩⟩ rfl rfl hl.1 rfl (lv_room e1) (by show decode cL_led 5 = _; decide +kernel) ⟨by omega, by omega⟩ (e := e) (below := below) (meth := meth)
  show W p l e R s m args below meth c H locs 0 0 Q (F0 m 5 ls ([.int a1, .int a2].reverse ++ Value.ref (ad 0) :: rest.map (rf_cv ad)))
  intro T hT X
  rcases hrun T hT X with ⟨v, st₀, t, T', L, h0, X', hL, g1, g2, hF, stp⟩ | ⟨q9, st₀, t, T', L, E, ce, h0, X', hL, g1, g2, hF, hce, hcv, hcl, stp⟩
  · cases r with
    | inr M' => exact hF.elim
    | inl q =>
      obtain ⟨hv, hp, hFr⟩ := hF
      cases hv
      obtain ⟨-, -, hS'⟩ := vq_keep (A1 := rf_A ad sh.1 H.size) h0 g1 hS (fun q _ h => hsub q h) hsub hL hFr
      obtain ⟨t2, a1', b1⟩ := kn q rfl T'.heap (locs ++ L) ls (by show va_P D vwCl (rf_ws ad cad sh q.2) T'.heap; rw [g1]; exact hp) (rf_D_M hD) hS' hl T' rfl X'
      exact ⟨t2, stp t2 a1', b1⟩
  · cases r with
    | inl q => exact hF.elim
    | inr M' =>
      obtain ⟨rfl, hp, hFr⟩ := hF
      obtain ⟨-, -, hS'⟩ := vq_keep (A1 := rf_A ad sh.1 H.size) h0 g1 hS (fun q _ h => hsub q h) hsub hL hFr
      have kk := kx M' rfl q9 T'.heap (locs ++ L) ls (by show va_P D vwCl (rf_ws ad cad sh M') T'.heap; rw [g1]; exact hp) (rf_D_M hD) hS' hl
      obtain ⟨c3, c4, hc3, hc4, hasg0⟩ := Cond.castable_spec hcast
      have hasg : s.vm.assignable ce.cls ce.cls = true := by
        cases Option.some.inj (hc3.symm.trans hcl)
        cases Option.some.inj (hc4.symm.trans hcl)
        exact hasg0
      obtain ⟨t2, s2, w2⟩ := vq_catchA (p := p) (l := l) (e := e) (R := R) (s := s) (m := m) (args := args) (below := below) (meth := meth) (c := c) (H := T'.heap) (locs := locs ++ L) (cells := 0 + 1) (slots := 0 + 6) (Q := Q) (ls := ls) (rest := rest.map (rf_cv ad)) (pc := 5) (own := rf_own 32) (name := rf_ex) (ce := ce) (q := q9) hown ⟨0, 10, 13, 13⟩ htab (by decide) (by decide) (hts _ (rf_mem 34 (by decide +kernel))) hasg (by rw [g1]; exact hce) hcv hcl kk T' rfl X'
      exact ⟨t2, stp.trans s2, w2⟩
end RFM
def g_L_led (w : rf_w) (m : rf_m) (a1 a2 : Int32) : Option (Int32 × rf_m) := match g_X11_led_0 w a1 a2 m with
  | none => none
  | some (.inl q) => some (0, rf_l q.2 305 0 (Int32.toInt64 q.1))
  | some (.inr m') => some (1, m')
def rf_ConL (d : Nat) (sh : rf_Sh) (args : List Value) (M : rf_M) (v : Option Value) (M' : rf_M) : Prop := ∀ (l : Launch) (D : va_G) (ad : Nat → Nat) (cad : Nat → ClassId) (sz : Nat), l.stackTraces = false → Met l yL_led (.codeWith yL_led cL_led 5 (some .int) [(0, 10, 13, 13)] :: rf_WS) (rf_rm d 1 6) (va_Pc (args.map (rf_cv ad)) (rf_PreN D ad cad sh M sz)) (rf_Q D ad cad sh v M' (rf_A ad sh.1 sz)) 1 6 (rf_A ad sh.1 sz)
theorem c_L_led {w : rf_w} {m : rf_m} {a1 a2 : Int32} {r : Int32 × rf_m} (hg : g_L_led w m a1 a2 = some r) : rf_ConL 10 (rf_sh w) [.ref 0, .int a1, .int a2, .ref 305] (rf_MM w m) (some (.int r.1)) (rf_MM w r.2) := by
  intro l D ad cad sz hst
  refine va_MetW (cc := cL_led) (maxL := 5) (ret := some .int) (hh := [(0, 10, 13, 13)]) (by decide +kernel) rfl ?_
  intro p e s m9 args' below meth c s₁ B hml hv
  obtain ⟨rfl, ⟨hsz, hPw, hK, hT, hD0, hX, hwf⟩, hNx⟩ := hv
  have hts := atoms_spec (ws := .codeWith yL_led cL_led 5 (some .int) [(0, 10, 13, 13)] :: rf_WS) B.pre
  have htab := vq_table (x := yL_led) B (hts _ List.mem_cons_self)
  have hown : s.vm.findClass yL_led.cls = some m9.cls := findClass_of_methodNamed B.named
  subst hsz
  have hA : ∀ q, rf_A ad (rf_sh w).1 s.heap.size q ↔ rf_A ad (rf_sh w).1 s.heap.size q := fun _ => Iff.rfl
  have C : rf_Ctx 32 cL_led 5 10 (rf_sh w) (p, l, e, rf_rm 10 1 6, s, m9, (([Value.ref 0, .int a1, .int a2, .ref 305].map (rf_cv ad)).toArray), below, meth, c, D, ad, cad, rf_A ad (rf_sh w).1 s.heap.size, MQ below (rf_Q D ad cad (rf_sh w) (some (.int r.1)) (rf_MM w r.2) (rf_A ad (rf_sh w).1 s.heap.size)) (([Value.ref 0, .int a1, .int a2, .ref 305].map (rf_cv ad)).toArray) s 1 6 (rf_A ad (rf_sh w).1 s.heap.size)) := ⟨B.exec, B.bytes, hml, hown, fun w hw => hts w (List.mem_cons_of_mem _ hw), hK, hT, hA, B.notSynchronized, hX, Nat.le_refl _, Nat.le_refl _, hwf⟩
  have hV : rf_V 5 (rf_sh w) (p, l, e, rf_rm 10 1 6, s, m9, (([Value.ref 0, .int a1, .int a2, .ref 305].map (rf_cv ad)).toArray), below, meth, c, D, ad, cad, rf_A ad (rf_sh w).1 s.heap.size, MQ below (rf_Q D ad cad (rf_sh w) (some (.int r.1)) (rf_MM w r.2) (rf_A ad (rf_sh w).1 s.heap.size)) (([Value.ref 0, .int a1, .int a2, .ref 305].map (rf_cv ad)).toArray) s 1 6 (rf_A ad (rf_sh w).1 s.heap.size)) 0 0 0 ([(0, .ref 0), (1, .int a1), (2, .int a2), (3, .ref 305)], [], rf_MM w m) := by
    refine rf_seg C [(.aload 3, 1), (.iconst 0, 1), (.aload 0, 1), (.iload 1, 1), (.iload 2, 1)] (pc' := 5) (S' := ([(0, .ref 0), (1, .int a1), (2, .int a2), (3, .ref 305)], [.int a2, .int a1, .ref 0, .int 0, .ref 305], rf_MM w m)) (by decide +kernel) rfl trivial ?_
    unfold g_L_led at hg
    cases hr : g_X11_led_0 w a1 a2 m with
    | none => rw [hr] at hg; cases hg
    | some q =>
      rw [hr] at hg
      refine rf_ledcall C ⟨hst, hNx, htab, Nat.le_refl _, Nat.le_refl _, hNx.2.2 _ (List.mem_filter.mpr ⟨rf_excast, by decide⟩) _⟩ (by decide) (c_X11_led hr) rfl (rest := [.int 0, .ref 305]) (Nat.le_of_ble_eq_true rfl) (fun q' hq' => ?_) (fun M' hM' => ?_)
      · cases q with
        | inr m' => cases hq'
        | inl q =>
          cases hq'
          obtain rfl := Option.some.inj hg
          refine rf_seg C [(.i2l, 1), (.lastore, 1)] (pc' := 10) (S' := ([(0, .ref 0), (1, .int a1), (2, .int a2), (3, .ref 305)], [], rf_MM w (rf_l q.2 305 0 (Int32.toInt64 q.1)))) (by decide +kernel) rfl (rf_in_of (by decide)) ?_
          refine rf_goto C 7 17 (by decide +kernel) ?_
          refine rf_seg C [(.iconst 0, 1)] (pc' := 18) (S' := ([(0, .ref 0), (1, .int a1), (2, .int a2), (3, .ref 305)], [.int 0], rf_MM w (rf_l q.2 305 0 (Int32.toInt64 q.1)))) (by decide +kernel) rfl trivial ?_
          exact rf_iret C ⟨B.returns, rfl⟩ (by decide +kernel)
      · cases q with
        | inl q => cases hM'
        | inr m' =>
          cases hM'
          obtain rfl := Option.some.inj hg
          intro a H locs ls hP hD9 hS hl
          refine lv_astore B.exec B.bytes (i := 4) (by decide +kernel) hl (by decide) rfl (fun ls' hl' => ?_)
          refine lv_iconst B.exec B.bytes (n := 1) (v := 1) (by decide +kernel) rfl ?_
          exact W.iret B.exec B.bytes B.returns (fun t ht hW => ⟨rfl, by rw [ht]; exact hP, hS.F ht⟩) hS.2.2 (by decide +kernel) B.notSynchronized
  have hl := lv_entry ([Value.ref 0, .int a1, .int a2, .ref 305].map (rf_cv ad)) (n := 5) (Nat.le_of_ble_eq_true rfl)
  rw [rf_lc_args] at hl
  rw [lg_entry_eq]
  exact hV s.heap [] _ hPw (rf_D_A hD0 hA) va_S.rf hl
