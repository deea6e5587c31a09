/-! branches, returns, contracts, calls (written by wip/tool/calls.py) -/
section RFB
variable {o nL d : Nat} {cc : ByteArray} {sh : rf_Sh} {cells slots pc : Nat} {K : rf_K} {lv : rf_L} {st : List Value} {M : rf_M}
theorem rf_if_eq (C : rf_Ctx o cc nL d sh K) {x : Int32} (off : Int) (tgt : Nat) (hd : decode cc pc = .ok (.ifCond .eq off, 3) ∧ (pc : Int) + off = (tgt : Int)) (kt : x = 0 → rf_V nL sh K cells slots tgt (lv, st, M)) (kf : ¬ x = 0 → rf_V nL sh K cells slots (pc + 3) (lv, st, M)) : rf_V nL sh K cells slots pc (lv, .int x :: st, M) := by
  obtain ⟨p, l, e, R, s, m, args, below, meth, c, D, ad, cad, A, Q⟩ := K
  obtain ⟨hx, hb, hml, hown, hts, hK, hT, hA, hlk, hXs, hdf, hdl, hwf⟩ := C
  intro H locs ls hPw hD hS hl
  exact lv_if_eq hx hb hd.1 hd.2 (fun h => kt h H locs ls hPw hD hS hl) (fun h => kf h H locs ls hPw hD hS hl)
theorem rf_icmp_eq (C : rf_Ctx o cc nL d sh K) {x y : Int32} (off : Int) (tgt : Nat) (hd : decode cc pc = .ok (.if_icmp .eq off, 3) ∧ (pc : Int) + off = (tgt : Int)) (kt : x = y → rf_V nL sh K cells slots tgt (lv, st, M)) (kf : ¬ x = y → rf_V nL sh K cells slots (pc + 3) (lv, st, M)) : rf_V nL sh K cells slots pc (lv, .int y :: .int x :: st, M) := by
  obtain ⟨p, l, e, R, s, m, args, below, meth, c, D, ad, cad, A, Q⟩ := K
  obtain ⟨hx, hb, hml, hown, hts, hK, hT, hA, hlk, hXs, hdf, hdl, hwf⟩ := C
  intro H locs ls hPw hD hS hl
  exact lv_icmp_eq hx hb hd.1 hd.2 (fun h => kt h H locs ls hPw hD hS hl) (fun h => kf h H locs ls hPw hD hS hl)
theorem rf_if_ne (C : rf_Ctx o cc nL d sh K) {x : Int32} (off : Int) (tgt : Nat) (hd : decode cc pc = .ok (.ifCond .ne off, 3) ∧ (pc : Int) + off = (tgt : Int)) (kt : ¬ x = 0 → rf_V nL sh K cells slots tgt (lv, st, M)) (kf : x = 0 → rf_V nL sh K cells slots (pc + 3) (lv, st, M)) : rf_V nL sh K cells slots pc (lv, .int x :: st, M) := by
  obtain ⟨p, l, e, R, s, m, args, below, meth, c, D, ad, cad, A, Q⟩ := K
  obtain ⟨hx, hb, hml, hown, hts, hK, hT, hA, hlk, hXs, hdf, hdl, hwf⟩ := C
  intro H locs ls hPw hD hS hl
  exact lv_if_ne hx hb hd.1 hd.2 (fun h => kt h H locs ls hPw hD hS hl) (fun h => kf h H locs ls hPw hD hS hl)
theorem rf_icmp_ne (C : rf_Ctx o cc nL d sh K) {x y : Int32} (off : Int) (tgt : Nat) (hd : decode cc pc = .ok (.if_icmp .ne off, 3) ∧ (pc : Int) + off = (tgt : Int)) (kt : ¬ x = y → rf_V nL sh K cells slots tgt (lv, st, M)) (kf : x = y → rf_V nL sh K cells slots (pc + 3) (lv, st, M)) : rf_V nL sh K cells slots pc (lv, .int y :: .int x :: st, M) := by
  obtain ⟨p, l, e, R, s, m, args, below, meth, c, D, ad, cad, A, Q⟩ := K
  obtain ⟨hx, hb, hml, hown, hts, hK, hT, hA, hlk, hXs, hdf, hdl, hwf⟩ := C
  intro H locs ls hPw hD hS hl
  exact lv_icmp_ne hx hb hd.1 hd.2 (fun h => kt h H locs ls hPw hD hS hl) (fun h => kf h H locs ls hPw hD hS hl)
theorem rf_if_lt (C : rf_Ctx o cc nL d sh K) {x : Int32} (off : Int) (tgt : Nat) (hd : decode cc pc = .ok (.ifCond .lt off, 3) ∧ (pc : Int) + off = (tgt : Int)) (kt : x < 0 → rf_V nL sh K cells slots tgt (lv, st, M)) (kf : ¬ x < 0 → rf_V nL sh K cells slots (pc + 3) (lv, st, M)) : rf_V nL sh K cells slots pc (lv, .int x :: st, M) := by
  obtain ⟨p, l, e, R, s, m, args, below, meth, c, D, ad, cad, A, Q⟩ := K
  obtain ⟨hx, hb, hml, hown, hts, hK, hT, hA, hlk, hXs, hdf, hdl, hwf⟩ := C
  intro H locs ls hPw hD hS hl
  exact lv_if_lt hx hb hd.1 hd.2 (fun h => kt h H locs ls hPw hD hS hl) (fun h => kf h H locs ls hPw hD hS hl)
theorem rf_icmp_lt (C : rf_Ctx o cc nL d sh K) {x y : Int32} (off : Int) (tgt : Nat) (hd : decode cc pc = .ok (.if_icmp .lt off, 3) ∧ (pc : Int) + off = (tgt : Int)) (kt : x < y → rf_V nL sh K cells slots tgt (lv, st, M)) (kf : ¬ x < y → rf_V nL sh K cells slots (pc + 3) (lv, st, M)) : rf_V nL sh K cells slots pc (lv, .int y :: .int x :: st, M) := by
  obtain ⟨p, l, e, R, s, m, args, below, meth, c, D, ad, cad, A, Q⟩ := K
  obtain ⟨hx, hb, hml, hown, hts, hK, hT, hA, hlk, hXs, hdf, hdl, hwf⟩ := C
  intro H locs ls hPw hD hS hl
  exact lv_icmp_lt hx hb hd.1 hd.2 (fun h => kt h H locs ls hPw hD hS hl) (fun h => kf h H locs ls hPw hD hS hl)
theorem rf_if_ge (C : rf_Ctx o cc nL d sh K) {x : Int32} (off : Int) (tgt : Nat) (hd : decode cc pc = .ok (.ifCond .ge off, 3) ∧ (pc : Int) + off = (tgt : Int)) (kt : 0 ≤ x → rf_V nL sh K cells slots tgt (lv, st, M)) (kf : ¬ 0 ≤ x → rf_V nL sh K cells slots (pc + 3) (lv, st, M)) : rf_V nL sh K cells slots pc (lv, .int x :: st, M) := by
  obtain ⟨p, l, e, R, s, m, args, below, meth, c, D, ad, cad, A, Q⟩ := K
  obtain ⟨hx, hb, hml, hown, hts, hK, hT, hA, hlk, hXs, hdf, hdl, hwf⟩ := C
  intro H locs ls hPw hD hS hl
  exact lv_if_ge hx hb hd.1 hd.2 (fun h => kt h H locs ls hPw hD hS hl) (fun h => kf h H locs ls hPw hD hS hl)
theorem rf_icmp_ge (C : rf_Ctx o cc nL d sh K) {x y : Int32} (off : Int) (tgt : Nat) (hd : decode cc pc = .ok (.if_icmp .ge off, 3) ∧ (pc : Int) + off = (tgt : Int)) (kt : y ≤ x → rf_V nL sh K cells slots tgt (lv, st, M)) (kf : ¬ y ≤ x → rf_V nL sh K cells slots (pc + 3) (lv, st, M)) : rf_V nL sh K cells slots pc (lv, .int y :: .int x :: st, M) := by
  obtain ⟨p, l, e, R, s, m, args, below, meth, c, D, ad, cad, A, Q⟩ := K
  obtain ⟨hx, hb, hml, hown, hts, hK, hT, hA, hlk, hXs, hdf, hdl, hwf⟩ := C
  intro H locs ls hPw hD hS hl
  exact lv_icmp_ge hx hb hd.1 hd.2 (fun h => kt h H locs ls hPw hD hS hl) (fun h => kf h H locs ls hPw hD hS hl)
theorem rf_if_gt (C : rf_Ctx o cc nL d sh K) {x : Int32} (off : Int) (tgt : Nat) (hd : decode cc pc = .ok (.ifCond .gt off, 3) ∧ (pc : Int) + off = (tgt : Int)) (kt : 0 < x → rf_V nL sh K cells slots tgt (lv, st, M)) (kf : ¬ 0 < x → rf_V nL sh K cells slots (pc + 3) (lv, st, M)) : rf_V nL sh K cells slots pc (lv, .int x :: st, M) := by
  obtain ⟨p, l, e, R, s, m, args, below, meth, c, D, ad, cad, A, Q⟩ := K
  obtain ⟨hx, hb, hml, hown, hts, hK, hT, hA, hlk, hXs, hdf, hdl, hwf⟩ := C
  intro H locs ls hPw hD hS hl
  exact lv_if_gt hx hb hd.1 hd.2 (fun h => kt h H locs ls hPw hD hS hl) (fun h => kf h H locs ls hPw hD hS hl)
theorem rf_icmp_gt (C : rf_Ctx o cc nL d sh K) {x y : Int32} (off : Int) (tgt : Nat) (hd : decode cc pc = .ok (.if_icmp .gt off, 3) ∧ (pc : Int) + off = (tgt : Int)) (kt : y < x → rf_V nL sh K cells slots tgt (lv, st, M)) (kf : ¬ y < x → rf_V nL sh K cells slots (pc + 3) (lv, st, M)) : rf_V nL sh K cells slots pc (lv, .int y :: .int x :: st, M) := by
  obtain ⟨p, l, e, R, s, m, args, below, meth, c, D, ad, cad, A, Q⟩ := K
  obtain ⟨hx, hb, hml, hown, hts, hK, hT, hA, hlk, hXs, hdf, hdl, hwf⟩ := C
  intro H locs ls hPw hD hS hl
  exact lv_icmp_gt hx hb hd.1 hd.2 (fun h => kt h H locs ls hPw hD hS hl) (fun h => kf h H locs ls hPw hD hS hl)
theorem rf_if_le (C : rf_Ctx o cc nL d sh K) {x : Int32} (off : Int) (tgt : Nat) (hd : decode cc pc = .ok (.ifCond .le off, 3) ∧ (pc : Int) + off = (tgt : Int)) (kt : x ≤ 0 → rf_V nL sh K cells slots tgt (lv, st, M)) (kf : ¬ x ≤ 0 → rf_V nL sh K cells slots (pc + 3) (lv, st, M)) : rf_V nL sh K cells slots pc (lv, .int x :: st, M) := by
  obtain ⟨p, l, e, R, s, m, args, below, meth, c, D, ad, cad, A, Q⟩ := K
  obtain ⟨hx, hb, hml, hown, hts, hK, hT, hA, hlk, hXs, hdf, hdl, hwf⟩ := C
  intro H locs ls hPw hD hS hl
  exact lv_if_le hx hb hd.1 hd.2 (fun h => kt h H locs ls hPw hD hS hl) (fun h => kf h H locs ls hPw hD hS hl)
theorem rf_icmp_le (C : rf_Ctx o cc nL d sh K) {x y : Int32} (off : Int) (tgt : Nat) (hd : decode cc pc = .ok (.if_icmp .le off, 3) ∧ (pc : Int) + off = (tgt : Int)) (kt : x ≤ y → rf_V nL sh K cells slots tgt (lv, st, M)) (kf : ¬ x ≤ y → rf_V nL sh K cells slots (pc + 3) (lv, st, M)) : rf_V nL sh K cells slots pc (lv, .int y :: .int x :: st, M) := by
  obtain ⟨p, l, e, R, s, m, args, below, meth, c, D, ad, cad, A, Q⟩ := K
  obtain ⟨hx, hb, hml, hown, hts, hK, hT, hA, hlk, hXs, hdf, hdl, hwf⟩ := C
  intro H locs ls hPw hD hS hl
  exact lv_icmp_le hx hb hd.1 hd.2 (fun h => kt h H locs ls hPw hD hS hl) (fun h => kf h H locs ls hPw hD hS hl)
theorem rf_goto (C : rf_Ctx o cc nL d sh K) (off : Int) (tgt : Nat) {S : rf_S} (hd : decode cc pc = .ok (.goto off, 3) ∧ (pc : Int) + off = (tgt : Int)) (k : rf_V nL sh K cells slots tgt S) : rf_V nL sh K cells slots pc S := by
  obtain ⟨p, l, e, R, s, m, args, below, meth, c, D, ad, cad, A, Q⟩ := K
  obtain ⟨hx, hb, hml, hown, hts, hK, hT, hA, hlk, hXs, hdf, hdl, hwf⟩ := C
  intro H locs ls hPw hD hS hl
  exact lv_goto hx hb hd.1 hd.2 (k H locs ls hPw hD hS hl)
/-- fewer locals -/
theorem rf_fewer {S : rf_S} (lv' : rf_L) (hs : ∀ q ∈ lv', q ∈ S.1) (k : rf_V nL sh K cells slots pc (lv', S.2)) : rf_V nL sh K cells slots pc S := by
  obtain ⟨p, l, e, R, s, m, args, below, meth, c, D, ad, cad, A, Q⟩ := K
  intro H locs ls hPw hD hS hl
  exact k H locs ls hPw hD hS (rf_lc_has hl hs)
/-- what a method leaves behind: its answer, the memory, nothing else changed -/
def rf_Q (D : va_G) (ad : Nat → Nat) (cad : Nat → ClassId) (sh : rf_Sh) (v : Option Value) (M' : rf_M) (A : Nat → Prop) : Array Value → State → Outcome → State → Prop := fun _ st oc t => oc = .returned (v.map (rf_cv ad)) ∧ va_P D vwCl (rf_ws ad cad sh M') t.heap ∧ va_F A st t
def rf_End (ret : Option FieldType) (K : rf_K) (sh : rf_Sh) (mc ms : Nat) (v : Option Value) (M' : rf_M) : Prop := match K with
  | (_, _, _, _, s, _, args, below, meth, _, D, ad, cad, A, Q) => meth.sig.returnType = ret ∧ Q = MQ below (rf_Q D ad cad sh v M' A) args s mc ms A
theorem rf_iret (C : rf_Ctx o cc nL d sh K) {x : Int32} (hE : rf_End (some .int) K sh cells slots (some (.int x)) M) (hd : decode cc pc = .ok (.ireturn, 1)) : rf_V nL sh K cells slots pc (lv, [.int x], M) := by
  obtain ⟨p, l, e, R, s, m, args, below, meth, c, D, ad, cad, A, Q⟩ := K
  obtain ⟨hx, hb, hml, hown, hts, hK, hT, hA, hlk, hXs, hdf, hdl, hwf⟩ := C
  obtain ⟨hr, rfl⟩ := hE
  intro H locs ls hPw hD hS hl
  exact W.iret hx hb hr (fun t ht hW => ⟨rfl, by rw [ht]; exact hPw, hS.F ht⟩) hS.2.2 hd hlk
theorem rf_zret (C : rf_Ctx o cc nL d sh K) {x : Int32} (hE : rf_End (some .boolean) K sh cells slots (some (.int x)) M) (h01 : x = 0 ∨ x = 1) (hd : decode cc pc = .ok (.ireturn, 1)) : rf_V nL sh K cells slots pc (lv, [.int x], M) := by
  obtain ⟨p, l, e, R, s, m, args, below, meth, c, D, ad, cad, A, Q⟩ := K
  obtain ⟨hx, hb, hml, hown, hts, hK, hT, hA, hlk, hXs, hdf, hdl, hwf⟩ := C
  obtain ⟨hr, rfl⟩ := hE
  intro H locs ls hPw hD hS hl
  exact W.zret hx hb hr (by rcases h01 with rfl | rfl <;> rfl) (fun t ht hW => ⟨rfl, by rw [ht]; exact hPw, hS.F ht⟩) hS.2.2 hd hlk
theorem rf_lret (C : rf_Ctx o cc nL d sh K) {x : Int64} (hE : rf_End (some .long) K sh cells slots (some (.long x)) M) (hd : decode cc pc = .ok (.lreturn, 1)) : rf_V nL sh K cells slots pc (lv, [.long x], M) := by
  obtain ⟨p, l, e, R, s, m, args, below, meth, c, D, ad, cad, A, Q⟩ := K
  obtain ⟨hx, hb, hml, hown, hts, hK, hT, hA, hlk, hXs, hdf, hdl, hwf⟩ := C
  obtain ⟨hr, rfl⟩ := hE
  intro H locs ls hPw hD hS hl
  exact W.lret hx hb hr (fun t ht hW => ⟨rfl, by rw [ht]; exact hPw, hS.F ht⟩) hS.2.2 hd hlk
theorem rf_vret (C : rf_Ctx o cc nL d sh K) (hE : rf_End none K sh cells slots none M) (hd : decode cc pc = .ok (.return_, 1)) : rf_V nL sh K cells slots pc (lv, [], M) := by
  obtain ⟨p, l, e, R, s, m, args, below, meth, c, D, ad, cad, A, Q⟩ := K
  obtain ⟨hx, hb, hml, hown, hts, hK, hT, hA, hlk, hXs, hdf, hdl, hwf⟩ := C
  obtain ⟨hr, rfl⟩ := hE
  intro H locs ls hPw hD hS hl
  exact W.vret hx hb hr (fun t ht hW => ⟨rfl, by rw [ht]; exact hPw, hS.F ht⟩) hS.2.2 hd hlk
abbrev rf_J : Type := Nat × MethodName × ByteArray × Nat × Option FieldType
def rf_rm (d mc ms : Nat) : Room := { frames := d, cells := mc, slots := ms, locals := 64 * d }
/-- what holds where a method begins -/
def rf_In (D : va_G) (ad : Nat → Nat) (cad : Nat → ClassId) (sh : rf_Sh) (M : rf_M) (sz : Nat) (U : State) : Prop := U.heap.size = sz ∧ va_P D vwCl (rf_ws ad cad sh M) U.heap ∧ va_K D vwCl [] U ∧ (∀ k t n, rf_at sh k = some (.inl (t, n)) → va_K D vwCl [(cad k, t)] U) ∧ va_D (fun _ => True) (rf_ws ad cad sh M) ∧ rf_X ad (rf_A ad sh.1 sz) U U.heap ∧ rf_Wf sh
/-- a method's contract: with these arguments over this memory it answers v and leaves M' -/
def rf_Con (J : rf_J) (d : Nat) (sh : rf_Sh) (args : List Value) (M : rf_M) (v : Option Value) (M' : rf_M) : Prop := ∀ (l : Launch) (D : va_G) (ad : Nat → Nat) (cad : Nat → ClassId) (sz : Nat), Met l J.2.1 (.code J.2.1 J.2.2.1 J.2.2.2.1 J.2.2.2.2 :: rf_WS) (rf_rm d 0 0) (va_Pc (args.map (rf_cv ad)) (rf_In D ad cad sh M sz)) (rf_Q D ad cad sh v M' (rf_A ad sh.1 sz)) 0 0 (rf_A ad sh.1 sz)
theorem rf_lc_args (ad : Nat → Nat) (vs : List Value) : ∀ i, lv_args i (vs.map (rf_cv ad)) = rf_lc ad (lv_args i vs) := by
  induction vs with
  | nil => intro i; rfl
  | cons v vs ih =>
    intro i
    simp only [List.map_cons, lv_args, rf_cat, ih]
    rfl
theorem rf_sl_len (ad : Nat → Nat) (vs : List Value) : (lg_sl (vs.map (rf_cv ad))).length = (lg_sl vs).length := by
  induction vs with
  | nil => rfl
  | cons v vs ih =>
    simp only [lg_sl, List.map_cons, List.flatMap_cons, List.length_append, rf_cat] at ih ⊢
    rw [ih]
    split <;> rfl
theorem rf_D_A {ad : Nat → Nat} {cad : Nat → ClassId} {sh : rf_Sh} {M : rf_M} {A B : Nat → Prop} {sz : Nat} (h : va_D B (rf_ws ad cad sh M)) (hA : ∀ q, A q ↔ rf_A ad sh.1 sz q) : va_D A (rf_ws ad cad sh M) := by
  refine ⟨h.1, fun k q hk => ?_⟩
  obtain ⟨h1, rfl⟩ := rf_ws_of hk
  exact (hA _).mpr (Or.inl ⟨k, h1, rfl⟩)
theorem rf_D_M {ad : Nat → Nat} {cad : Nat → ClassId} {sh : rf_Sh} {M M' : rf_M} {A : Nat → Prop} (h : va_D A (rf_ws ad cad sh M)) : va_D A (rf_ws ad cad sh M') := by
  have e : ∀ (k : Nat) (q : Nat × va_E), (rf_ws ad cad sh M')[k]? = some q → ∃ e, (rf_ws ad cad sh M)[k]? = some (q.1, e) := by
    intro k q hk
    obtain ⟨h1, rfl⟩ := rf_ws_of hk
    exact ⟨_, rf_ws_lt h1⟩
  refine ⟨fun i j p q hi hj hpq => ?_, fun k q hk => ?_⟩
  · obtain ⟨e1, h1⟩ := e i p hi
    obtain ⟨e2, h2⟩ := e j q hj
    exact h.1 i j _ _ h1 h2 hpq
  · obtain ⟨e1, h1⟩ := e k q hk
    exact h.2 k (q.1, e1) h1
/-- a contract out of a walk -/
theorem rf_con (J : rf_J) (d : Nat) {sh : rf_Sh} {args : List Value} {M : rf_M} {v : Option Value} {M' : rf_M} (hJ : plainFor J.2.1 = true ∧ J.2.1.cls = rf_own J.1 ∧ (lg_sl args).length ≤ J.2.2.2.1)
    (h : ∀ K : rf_K, rf_Ctx J.1 J.2.2.1 J.2.2.2.1 d sh K → rf_End J.2.2.2.2 K sh 0 0 v M' → rf_V J.2.2.2.1 sh K 0 0 0 (lv_args 0 args, [], M)) : rf_Con J d sh args M v M' := by
  intro l D ad cad sz
  obtain ⟨o, y, cc, nL, ret⟩ := J
  obtain ⟨hpl, hcls, hlen⟩ := hJ
  refine va_MetF (cc := cc) (maxL := nL) (ret := ret) hpl rfl ?_
  intro p e s m args' below meth c s₁ B hml hv
  obtain ⟨rfl, hsz, hPw, hK, hT, hD0, hX, hwf⟩ := hv
  have hts := atoms_spec (ws := .code y cc nL ret :: rf_WS) B.pre
  have hown : s.vm.findClass y.cls = some m.cls := findClass_of_methodNamed B.named
  subst hsz
  have hA : ∀ q, rf_A ad sh.1 s.heap.size q ↔ rf_A ad sh.1 s.heap.size q := fun _ => Iff.rfl
  have hV := h (p, l, e, rf_rm d 0 0, s, m, _, below, meth, c, D, ad, cad, rf_A ad sh.1 s.heap.size, _)
    ⟨B.exec, B.bytes, hml, by rw [← hcls]; exact hown, fun w hw => hts w (List.mem_cons_of_mem _ hw), hK, hT, hA, B.notSynchronized, hX, Nat.le_refl d, Nat.le_refl _, hwf⟩ ⟨B.returns, rfl⟩
  have hl := lv_entry (args.map (rf_cv ad)) (n := nL) (by rw [rf_sl_len]; exact hlen)
  rw [rf_lc_args] at hl
  rw [lg_entry_eq]
  exact hV s.heap [] _ hPw (rf_D_A hD0 hA) va_S.rf hl
theorem rf_X_same {ad : Nat → Nat} {A : Nat → Prop} {u U : State} {H : Heap} (hv : U.vm = u.vm) (h : rf_X ad A u H) : rf_X ad A U H := by
  have ha : u.vm.Alike U.vm := by rw [hv]; exact Vm.Alike.refl _
  refine ⟨⟨⟨fun o e he => (h.1.1.1 o e he).same rfl hv.symm, fun e he => (h.1.1.2 e he).same rfl hv.symm⟩, h.1.2.1.moved ha, h.1.2.2.imp (fun z => z.moved ha) (fun z => z.moved ha)⟩, ?_⟩
  intro i q hq
  obtain ⟨h1, h2, h3, h4, h5⟩ := h.2 i q hq
  exact ⟨h1.same hv, h2.moved ha, h3.moved ha, h4.moved ha, h5.moved ha⟩
theorem rf_In_blind {D : va_G} {ad : Nat → Nat} {cad : Nat → ClassId} {sh : rf_Sh} {M : rf_M} {sz : Nat} {av : List Value} : FrameBlind (va_Pc av (rf_In D ad cad sh M sz)) := by
  intro a U g mk q
  obtain ⟨q0, q1, qP, qK, qT, qD, qX, qW⟩ := q
  exact ⟨q0, q1, qP, va_K.moved (u := U) (U := U.calling g mk a) (Vm.Alike.refl U.vm) qK, fun k t n h => va_K.moved (u := U) (U := U.calling g mk a) (Vm.Alike.refl U.vm) (qT k t n h), qD, rf_X_same (u := U) (U := U.calling g mk a) rfl qX, qW⟩
/-- what a call needs of the callee's words: of a method of a class, and of a static one -/
def rf_mv (J : rf_J) (C : String) (n : Nat) : Prop := (Cond.instanceMethod J.2.1 ∈ rf_WS ∧ Cond.selects C J.2.1 J.2.1 ∈ rf_WS ∧ Cond.initialized J.2.1.cls ∈ rf_WS ∧ Cond.code J.2.1 J.2.2.1 J.2.2.2.1 J.2.2.2.2 ∈ rf_WS) ∧ (J.2.1.cls ≠ "java/lang/invoke/MethodHandle" ∧ J.2.1.cls ≠ "java/lang/invoke/VarHandle" ∧ (parseMethodDescriptor J.2.1.desc).map (fun d => d.parameters.length) = some n) ∧ J.2.2.2.1 ≤ 45
def rf_ms (J : rf_J) (n : Nat) : Prop := (Cond.static J.2.1 ∈ rf_WS ∧ Cond.initialized J.2.1.cls ∈ rf_WS ∧ Cond.code J.2.1 J.2.2.1 J.2.2.2.1 J.2.2.2.2 ∈ rf_WS) ∧ (J.2.1.cls ≠ "java/lang/invoke/MethodHandle" ∧ J.2.1.cls ≠ "java/lang/invoke/VarHandle" ∧ (parseMethodDescriptor J.2.1.desc).map (fun d => d.parameters.length) = some n) ∧ J.2.2.2.1 ≤ 45
theorem rf_good0 : ∀ c, (rf_ch.getD c []).all goodWord = true → ∀ w ∈ rf_ch.getD c [], (w.onTables && w.keeps) = true ∨ ∃ ty, w = .arrayClass ty := fun c h w hw => good_of_word (List.all_eq_true.mp h w hw)
set_option maxRecDepth 100000 in
theorem rf_good1 : rf_ch.all (fun l => l.all goodWord) = true := by decide +kernel
theorem rf_good : ∀ w ∈ rf_WS, (w.onTables && w.keeps) = true ∨ ∃ ty, w = .arrayClass ty := by
  intro w hw
  obtain ⟨l, hl, hw⟩ := List.mem_flatten.mp hw
  exact good_of_word (List.all_eq_true.mp (List.all_eq_true.mp rf_good1 l hl) w hw)
theorem rf_goodJ {x : Cond} (hx : x ∈ rf_WS) : GoodIn rf_WS (x :: rf_WS) := by
  intro w hw
  rcases List.mem_cons.mp hw with rfl | hw
  · exact ⟨hx, rf_good _ hx⟩
  · exact ⟨hw, rf_good _ hw⟩
theorem rf_after {p : Program} {l : Launch} {e : Env} {R : Room} {s : State} {m : MethodId} {args : Array Value} {below : List Frame} {meth : Method} {c : Code} {D : va_G} {ad : Nat → Nat} {cad : Nat → ClassId} {A : Nat → Prop} {Q : State → Prop} {H : Heap} {locs : List Loc} {ls : Array Slot} {a0 : Array Value} {rest : List Value} {st0 : List Value} {v : Option Value} {M' : rf_M}
    (hA : ∀ q, A q ↔ rf_A ad sh.1 s.heap.size q) (hD : va_D A (rf_ws ad cad sh M)) (hS : va_S A s.heap H locs) (hl : lv_has ls nL (rf_lc ad lv))
    (hr : va_Run p l e R s m args below meth c H locs cells slots 0 0 (F0 m pc ls st0) (rest.map (rf_cv ad)) (rf_Q D ad cad sh v M' (rf_A ad sh.1 H.size) a0) (rf_A ad sh.1 H.size))
    (k : rf_V nL sh (p, l, e, R, s, m, args, below, meth, c, D, ad, cad, A, Q) cells slots (pc + 3) (lv, v.toList ++ rest, M')) : W p l e R s m args below meth c H locs cells slots Q (F0 m pc ls st0) := by
  have hsub : ∀ q, rf_A ad sh.1 H.size q → A q := by
    intro q hq
    refine (hA q).mpr ?_
    rcases hq with h | h
    · exact Or.inl h
    · exact Or.inr (Nat.le_trans hS.1 h)
  intro T hT X
  obtain ⟨v', st₀, t, T', L, h0, X', hL, e1, e2, ⟨hv, hp, hz, hk⟩, stp⟩ := hr T hT X
  cases hv
  rw [h0] at hz hk
  have hS' : va_S A s.heap T'.heap (locs ++ L) := by
    refine ⟨by rw [e1]; exact Nat.le_trans hS.1 hz, fun q h1 h2 => ?_, fun x hx => ?_⟩
    · rw [e1, hk q (Nat.lt_of_lt_of_le h1 hS.1) (fun h => h2 (hsub q h))]
      exact hS.2.1 q h1 h2
    · rcases List.mem_append.mp hx with h | h
      · exact hS.2.2 x h
      · exact hsub _ (hL x h)
  have k : ∀ (H : Heap) (locs : List Loc) (ls : Array Slot), va_P D vwCl (rf_ws ad cad sh M') H → va_D A (rf_ws ad cad sh M') → va_S A s.heap H locs → lv_has ls nL (rf_lc ad lv) → W p l e R s m args below meth c H locs cells slots Q (F0 m (pc + 3) ls ((v.toList ++ rest).map (rf_cv ad))) := k
  have hw := k T'.heap (locs ++ L) ls (by rw [e1]; exact hp) (rf_D_M hD) hS' hl
  obtain ⟨t2, a1, b1⟩ := hw T' rfl X'
  refine ⟨t2, stp t2 ?_, b1⟩
  have ee : (v.toList ++ rest).map (rf_cv ad) = (v.map (rf_cv ad)).toList ++ rest.map (rf_cv ad) := by cases v <;> simp
  rw [ee] at a1
  exact a1
theorem rf_pre {p : Program} {l : Launch} {e : Env} {R : Room} {s : State} {m : MethodId} {args : Array Value} {below : List Frame} {meth : Method} {c : Code} {D : va_G} {ad : Nat → Nat} {cad : Nat → ClassId} {A : Nat → Prop} {Q : State → Prop} {H : Heap} {locs : List Loc} (C : rf_Ctx o cc nL d sh (p, l, e, R, s, m, args, below, meth, c, D, ad, cad, A, Q)) (hPw : va_P D vwCl (rf_ws ad cad sh M) H) (hD : va_D A (rf_ws ad cad sh M)) (hS : va_S A s.heap H locs) (av : List Value) :
    ∀ U : State, U.heap = H → s.WarmedH U.vm → va_Pc av (rf_In D ad cad sh M H.size) av.toArray U := by
  obtain ⟨hx, hb, hml, hown, hts, hK, hT, hA, hlk, hXs, hdf, hdl, hwf⟩ := C
  intro U hU hW
  refine ⟨rfl, by rw [hU], by rw [hU]; exact hPw, va_K.moved hW.alike hK, fun k t n h => va_K.moved hW.alike (hT k t n h), hD.weaken (fun _ _ _ _ => trivial), ?_, hwf⟩
  rw [hU]
  refine rf_X_moved hXs hS (fun q hq => (hA q).mpr ?_) hW
  rcases hq with h | h
  · exact Or.inl h
  · exact Or.inr (Nat.le_trans hS.1 h)
def rf_Fit (cells slots : Nat) (K : rf_K) : Prop := match K with
  | (_, _, _, R, _, _, _, _, _, _, _, _, _, _, _) => cells ≤ R.cells ∧ slots ≤ R.slots
theorem rf_fit0 : rf_Fit 0 0 K := by
  obtain ⟨p, l, e, R, s, m, args, below, meth, c, D, ad, cad, A, Q⟩ := K
  exact ⟨Nat.zero_le _, Nat.zero_le _⟩
/-- a call of a method of an object of the picture -/
theorem rf_callv (C : rf_Ctx o cc nL d sh K) (hf : rf_Fit cells slots K) (J : rf_J) {dc n idx a ci : Nat} {As rest stk : List Value} {v : Option Value} {M' : rf_M} (hm : rf_mv J (rf_R ci) n) (hM : rf_Con J dc sh (.ref a :: As) M v M') (hdc : dc < d) (ha : rf_at sh a = some (.inr ci)) (hci : ci < 15) (hlink : Cond.methodLink (rf_own o) idx J.2.1 ∈ rf_WS) (hn : As.length = n) (hst : stk = As.reverse ++ .ref a :: rest) (hrest : (rest.map fun v => v.category).sum ≤ 8) (hd : decode cc pc = .ok (.invokevirtual idx, 3))
    (k : rf_V nL sh K cells slots (pc + 3) (lv, v.toList ++ rest, M')) : rf_V nL sh K cells slots pc (lv, stk, M) := by
  subst hst
  obtain ⟨p, l, e, R, s, m, args, below, meth, c, D, ad, cad, A, Q⟩ := K
  have C0 := C
  obtain ⟨hx, hb, hml, hown, hts, hK, hT, hA, hlk, hXs, hdf, hdl, hwf⟩ := C
  obtain ⟨yo, y, yc, yn, yr⟩ := J
  obtain ⟨⟨m1, m2, m3, m4⟩, m5, m6⟩ := hm
  intro H locs ls hPw hD hS hl
  have e0 : (As.reverse ++ Value.ref a :: rest).map (rf_cv ad) = (As.map (rf_cv ad)).reverse ++ Value.ref (ad a) :: rest.map (rf_cv ad) := by simp [rf_cv]
  have e1 : ((rest.map (rf_cv ad)).map fun v => v.category).sum ≤ 8 := by
    rw [List.map_map]
    simpa [Function.comp_def, rf_cat] using hrest
  have m6 : yn ≤ 45 := m6
  show W p l e R s m args below meth c H locs cells slots Q (F0 m pc ls ((As.reverse ++ Value.ref a :: rest).map (rf_cv ad)))
  rw [e0]
  have hw : CallW R s args (rf_own o) (rf_R ci) idx y yc yn yr (.code y yc yn yr :: rf_WS) (rf_rm dc 0 0) 0 0 n := ⟨callB_of n hts (rf_goodJ m4) rfl rfl rfl (hts _ m3) (hts _ hlink) m5 ⟨by show dc + 1 ≤ _; omega, by show 8 + (yn + 11) + 64 * dc ≤ _; omega⟩, hts _ m1, hts _ m2⟩
  exact rf_after (Q := Q) (M := M) hA hD hS hl (va_runV (As := As.map (rf_cv ad)) (rest := rest.map (rf_cv ad)) ⟨hx, hb, hml, hown, hts⟩ (hM l D ad cad H.size) hw ⟨rf_In_blind, va_recv hK hPw (rf_cl ci hci) (rf_ws_at hwf ha), rf_pre C0 hPw hD hS _⟩ rfl (by simpa using hn) hl.1 rfl (lv_room e1) hd hf) k
/-- a call of a static method -/
theorem rf_calls (C : rf_Ctx o cc nL d sh K) (hf : rf_Fit cells slots K) (J : rf_J) {dc n idx : Nat} {As rest stk : List Value} {v : Option Value} {M' : rf_M} (hm : rf_ms J n) (hM : rf_Con J dc sh As M v M') (hdc : dc < d) (hlink : Cond.methodLink (rf_own o) idx J.2.1 ∈ rf_WS) (hn : As.length = n) (hst : stk = As.reverse ++ rest) (hrest : (rest.map fun v => v.category).sum ≤ 8) (hd : decode cc pc = .ok (.invokestatic idx, 3))
    (k : rf_V nL sh K cells slots (pc + 3) (lv, v.toList ++ rest, M')) : rf_V nL sh K cells slots pc (lv, stk, M) := by
  subst hst
  obtain ⟨p, l, e, R, s, m, args, below, meth, c, D, ad, cad, A, Q⟩ := K
  have C0 := C
  obtain ⟨hx, hb, hml, hown, hts, hK, hT, hA, hlk, hXs, hdf, hdl, hwf⟩ := C
  obtain ⟨yo, y, yc, yn, yr⟩ := J
  obtain ⟨⟨m1, m3, m4⟩, m5, m6⟩ := hm
  intro H locs ls hPw hD hS hl
  have e0 : (As.reverse ++ rest).map (rf_cv ad) = (As.map (rf_cv ad)).reverse ++ rest.map (rf_cv ad) := by simp
  have e1 : ((rest.map (rf_cv ad)).map fun v => v.category).sum ≤ 8 := by
    rw [List.map_map]
    simpa [Function.comp_def, rf_cat] using hrest
  have m6 : yn ≤ 45 := m6
  show W p l e R s m args below meth c H locs cells slots Q (F0 m pc ls ((As.reverse ++ rest).map (rf_cv ad)))
  rw [e0]
  have hw : CallB R s args (rf_own o) idx y yc yn yr (.code y yc yn yr :: rf_WS) (rf_rm dc 0 0) 0 0 n ∧ (Cond.static y).before args s = true := ⟨callB_of n hts (rf_goodJ m4) rfl rfl rfl (hts _ m3) (hts _ hlink) m5 ⟨by show dc + 1 ≤ _; omega, by show 8 + (yn + 11) + 64 * dc ≤ _; omega⟩, hts _ m1⟩
  exact rf_after (Q := Q) (M := M) hA hD hS hl (va_runS (As := As.map (rf_cv ad)) (rest := rest.map (rf_cv ad)) ⟨hx, hb, hml, hown, hts⟩ (hM l D ad cad H.size) hw ⟨rf_In_blind, rf_pre C0 hPw hD hS _⟩ rfl (by simpa using hn) hl.1 rfl (lv_room e1) hd hf) k
/-- a call of a nest mate's private static method -/
theorem rf_callsN (C : rf_Ctx o cc nL d sh K) (hf : rf_Fit cells slots K) (J : rf_J) {dc n idx ho : Nat} {As rest stk : List Value} {v : Option Value} {M' : rf_M} (hm : rf_ms J n) (hM : rf_Con J dc sh As M v M') (hdc : dc < d) (hlink : (o, idx, J.2.1, ho) ∈ rf_NM) (hn : As.length = n) (hst : stk = As.reverse ++ rest) (hrest : (rest.map fun v => v.category).sum ≤ 8) (hd : decode cc pc = .ok (.invokestatic idx, 3))
    (k : rf_V nL sh K cells slots (pc + 3) (lv, v.toList ++ rest, M')) : rf_V nL sh K cells slots pc (lv, stk, M) := by
  subst hst
  obtain ⟨p, l, e, R, s, m, args, below, meth, c, D, ad, cad, A, Q⟩ := K
  have C0 := C
  obtain ⟨hx, hb, hml, hown, hts, hK, hT, hA, hlk, hXs, hdf, hdl, hwf⟩ := C
  obtain ⟨yo, y, yc, yn, yr⟩ := J
  obtain ⟨⟨m1, m3, m4⟩, m5, m6⟩ := hm
  intro H locs ls hPw hD hS hl
  have e0 : (As.reverse ++ rest).map (rf_cv ad) = (As.map (rf_cv ad)).reverse ++ rest.map (rf_cv ad) := by simp
  have e1 : ((rest.map (rf_cv ad)).map fun v => v.category).sum ≤ 8 := by
    rw [List.map_map]
    simpa [Function.comp_def, rf_cat] using hrest
  have m6 : yn ≤ 45 := m6
  show W p l e R s m args below meth c H locs cells slots Q (F0 m pc ls ((As.reverse ++ rest).map (rf_cv ad)))
  rw [e0]
  have hnw : va_Nw (.methodLinkNest (rf_own o) idx y (rf_own ho)) s := hXs.1.1.2 (o, idx, y, ho) hlink
  have hw : va_CN R s args (rf_own o) idx y (rf_own ho) yc yn yr (.code y yc yn yr :: rf_WS) (rf_rm dc 0 0) 0 0 n ∧ (Cond.static y).before args s = true ∧ True := ⟨va_cnB n hts (rf_goodJ m4) rfl rfl rfl hnw (hts _ m3) m5 ⟨by show dc + 1 ≤ _; omega, by show 8 + (yn + 11) + 64 * dc ≤ _; omega⟩, hts _ m1, trivial⟩
  exact rf_after (Q := Q) (M := M) hA hD hS hl (va_runSN (As := As.map (rf_cv ad)) (rest := rest.map (rf_cv ad)) ⟨hx, hb, hml, hown, hts⟩ (hM l D ad cad H.size) hw ⟨rf_In_blind, rf_pre C0 hPw hD hS _⟩ rfl (by simpa using hn) hl.1 rfl (lv_room e1) hd hf) k
end RFB
