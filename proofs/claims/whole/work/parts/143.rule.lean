section RFH
theorem vq_catchA {p : Program} {l : Launch} {e : Env} {R : Room} {s : State} {m : MethodId} {args : Array Value} {below : List Frame} {meth : Method} {c : Code} {H : Heap} {locs : List Loc} {cells slots : Nat} {Q : State → Prop} {ls : Array Slot} {rest : List Value} {pc : Nat} {own name : String} {ce : Cell} {q : Addr} (hown : s.vm.findClass own = some m.cls) (x : ExceptionTableEntry) (hsplit : c.exceptionTable.toList = [x]) (hx : covers x pc = true) (h0 : x.catchType ≠ 0)
    (hlink : (Cond.classLink own x.catchType name).before args s = true) (hasg : s.vm.assignable ce.cls ce.cls = true) (hcell : H[q]? = some ce) (hv : ce.vm = .none) (hcl : s.vm.findClass name = some ce.cls)
    (kk : W p l e R s m args below meth c H locs cells slots Q (F0 m x.handlerPc ls [.ref q])) : vq_W p l e R s m args below meth c H locs cells slots Q (F0 m pc ls rest) q := by
  intro T hT X
  have hpl : e.platform.magicAccessors = ({} : Platform).magicAccessors := by rw [X.admits.platform]
  obtain ⟨c5, hc5, hcl5⟩ := Cond.classLink_spec hown hlink e.platform hpl
  cases Option.some.inj (hcl.symm.trans hc5)
  obtain ⟨vm', X', st⟩ := rf_caught1 X q (g := F0 m pc ls rest) rfl (by rw [hT]; exact hcell) (by rw [hv]; rfl) hsplit hx h0 hcl5 hasg
  obtain ⟨t, a1, b1⟩ := kk (T.setVm vm') hT X'
  exact ⟨t, st t a1, b1⟩
variable {o nL d : Nat} {cc : ByteArray} {sh : rf_Sh} {cells slots pc : Nat} {K : rf_K} {lv : rf_L} {st : List Value} {M : rf_M}
/-- a call of a method that may throw a Stop, in the reach of a handler -/
theorem rf_callvXH (C : rf_Ctx o cc nL d sh K) (J : rf_J) {dc n idx a ci hpc ct p0 p1 : Nat} {As rest stk : List Value} {r : rf_Rs} (hT : rf_Tab K [(p0, p1, hpc, ct)]) (hm : rf_mv J (rf_R ci) n) (hM : rf_ConX J dc sh (.ref a :: As) M r) (hdc : dc < d) (ha : rf_at sh a = some (.inr ci)) (hci : ci < 15) (hlink : Cond.methodLink (rf_own o) idx J.2.1 ∈ rf_WS) (hn : As.length = n) (hst : stk = As.reverse ++ .ref a :: rest) (hrest : (rest.map fun v => v.category).sum ≤ 8) (hd : decode cc pc = .ok (.invokevirtual idx, 3)) (hcov : p0 ≤ pc ∧ pc < p1 ∧ ct ≠ 0 ∧ Cond.classLink (rf_own o) ct (rf_R 13) ∈ rf_WS) (hf : rf_Fit cells slots K)
    (k : match r with
      | .inl q => rf_V nL sh K cells slots (pc + 3) (lv, q.1.toList ++ rest, q.2)
      | .inr q => rf_at sh q.1 = some (.inr 13) ∧ rf_V nL sh K cells slots hpc (lv, [.ref q.1], q.2)) : rf_V nL sh K cells slots pc (lv, stk, M) := by
  subst hst
  obtain ⟨p, l, e, R, s, m, args, below, meth, c, D, ad, cad, A, Q⟩ := K
  have C0 := C
  obtain ⟨hx, hb, hml, hown, hts, hK, hT0, hA, hlk, hXs, hdf, hdl, hwf⟩ := C
  obtain ⟨yo, y, yc, yn, yr⟩ := J
  obtain ⟨⟨m1, m2, m3, m4⟩, m5, m6⟩ := hm
  intro H locs ls hPw hD hS hl
  have e0 : (As.reverse ++ Value.ref a :: rest).map (rf_cv ad) = (As.map (rf_cv ad)).reverse ++ Value.ref (ad a) :: rest.map (rf_cv ad) := by simp [rf_cv]
  have e1 : ((rest.map (rf_cv ad)).map fun v => v.category).sum ≤ 8 := by
    rw [List.map_map]
    simpa [Function.comp_def, rf_cat] using hrest
  have m6 : yn ≤ 45 := m6
  show W p l e R s m args below meth c H locs cells slots Q (F0 m pc ls ((As.reverse ++ Value.ref a :: rest).map (rf_cv ad)))
  rw [e0]
  have hw : CallW R s args (rf_own o) (rf_R ci) idx y yc yn yr (.code y yc yn yr :: rf_WS) (rf_rm dc 0 0) 0 0 n := ⟨callB_of n hts (rf_goodJ m4) rfl rfl rfl (hts _ m3) (hts _ hlink) m5 ⟨by show dc + 1 ≤ _; omega, by show 8 + (yn + 11) + 64 * dc ≤ _; omega⟩, hts _ m1, hts _ m2⟩
  have hrun := vq_runV (cells := cells) (slots := slots) (H := H) (locs := locs) (g := F0 m pc ls ((As.map (rf_cv ad)).reverse ++ Value.ref (ad a) :: rest.map (rf_cv ad))) (As := As.map (rf_cv ad)) (rest := rest.map (rf_cv ad)) ⟨hx, hb, hml, hown, hts⟩ (hM l D ad cad H.size) hw ⟨rf_In_blind, va_recv hK hPw (rf_cl ci hci) (rf_ws_at hwf ha), rf_pre C0 hPw hD hS _⟩ rfl (by simpa using hn) hl.1 rfl (lv_room e1) hd hf (e := e) (below := below) (meth := meth)
  cases r with
  | inl q =>
    refine rf_after (Q := Q) (M := M) (v := q.1) (M' := q.2) (a0 := (Value.ref (ad a) :: As.map (rf_cv ad)).toArray) hA hD hS hl ?_ k
    intro T hT0 X
    rcases hrun T hT0 X with h | ⟨q9, st₀, t, T', L, E, ce, h0, X', hL, g1, g2, hF, -⟩
    · exact h
    · exact hF.elim
  | inr q =>
    obtain ⟨hq, k⟩ := k
    have hsub : ∀ z, rf_A ad sh.1 H.size z → A z := by
      intro z hz
      refine (hA z).mpr ?_
      rcases hz with h | h
      · exact Or.inl h
      · exact Or.inr (Nat.le_trans hS.1 h)
    intro T hT0 X
    rcases hrun T hT0 X with ⟨v, st₀, t, T', L, h0, X', hL, g1, g2, hF, -⟩ | ⟨q9, st₀, t, T', L, E, ce, h0, X', hL, g1, g2, ⟨rfl, rfl, hP9, hF9⟩, hce, hcv, hcl, stp⟩
    · exact hF.elim
    · obtain ⟨-, -, hS'⟩ := vq_keep (A1 := rf_A ad sh.1 H.size) h0 g1 hS (fun q _ h => hsub q h) hsub hL hF9
      have hca := (hK.1 13 _ (rf_cl 13 (by decide))).2
      have hasg : s.vm.assignable ce.cls ce.cls = true := by
        have h1 := va_assign hca
        have h2 := Option.some.inj (hca.1.symm.trans hcl)
        rw [← h2]
        exact h1
      have kk := k T'.heap (locs ++ L) ls (by show va_P D vwCl (rf_ws ad cad sh q.2) T'.heap; rw [g1]; exact hP9) (rf_D_M hD) hS' hl
      obtain ⟨t2, s2, w2⟩ := vq_catchA (p := p) (l := l) (e := e) (R := R) (s := s) (m := m) (args := args) (below := below) (meth := meth) (c := c) (H := T'.heap) (locs := locs ++ L) (cells := cells) (slots := slots) (Q := Q) (ls := ls) (rest := rest.map (rf_cv ad)) (pc := pc) (own := rf_own o) (name := rf_R 13) (ce := ce) (q := ad q.1) hown ⟨p0, p1, hpc, ct⟩ hT (by simp [covers, hcov.1, hcov.2.1]) hcov.2.2.1 (hts _ hcov.2.2.2) hasg (by rw [g1]; exact hce) hcv hcl kk T' rfl X'
      exact ⟨t2, stp.trans s2, w2⟩
end RFH
/-! worlds that grow; the reference's rule and strike (written by wip/tool/gen_rule.py) -/
def rf_z (m : rf_m) (n : Nat) : rf_m := (fun a b => if n ≤ a then 0 else m.1 a b, fun a b => if n ≤ a then 0 else m.2 a b)
def rf_wok (w : rf_w) : Prop := (306 ≤ w.1 ∧ w.1 < 1000000) ∧ (∀ k, 306 ≤ k → ((w.2.1 k).isSome = true ↔ k < w.1)) ∧ (∀ i j, w.2.2 i = some j → j < w.1) ∧ (∀ k, 306 ≤ k → w.2.1 k = some (.inr 12) → k + 2 < w.1)
theorem rf_sh_wf {w : rf_w} (h : rf_wok w) : rf_Wf (rf_sh w) := by
  intro k
  have h1 := h.1.1
  show ((bif Nat.ble k 305 then some (rf_s k) else w.2.1 k : Option rf_C).isSome = true) ↔ k < w.1
  cases hk : Nat.ble k 305 with
  | true =>
    have := Nat.le_of_ble_eq_true hk
    exact ⟨fun _ => by omega, fun _ => rfl⟩
  | false =>
    have hk' : 306 ≤ k := by
      have h2 : ¬ k ≤ 305 := fun hc => by rw [Nat.ble_eq_true_of_le hc] at hk; cases hk
      omega
    exact h.2.1 k hk'
theorem rf_Rt_hi {w : rf_w} {k i : Nat} (h : 306 ≤ k) : rf_Rt w k i = rf_rz w k i := by
  obtain ⟨j, rfl⟩ : ∃ j, k = j + 306 := ⟨k - 306, by omega⟩
  rfl
def rf_RP (k : Nat) : Prop := (∀ (w w' : rf_w) (i : Nat), rf_Rt w k i = rf_Rt w' k i) ∧ ∀ (w : rf_w) (i : Nat), rf_Rt w k (i + 148) = none
set_option maxRecDepth 20000 in
theorem rf_RP_0 : ∀ k ∈ [0, 1, 2, 3, 4, 5, 6, 7, 8, 9, 10, 11, 12, 13, 14, 15, 16, 17, 18, 19, 20, 21, 22, 23, 24, 25, 26, 27, 28, 29, 30, 31, 32, 33, 34, 35, 36, 37, 38, 39, 40, 41, 42, 43, 44, 45, 46, 47, 48, 49], rf_RP k := List.forall_mem_cons.mpr ⟨⟨fun _ _ _ => rfl, fun _ _ => rfl⟩, List.forall_mem_cons.mpr ⟨⟨fun _ _ _ => rfl, fun _ _ => rfl⟩, List.forall_mem_cons.mpr ⟨⟨fun _ _ _ => rfl, fun _ _ => rfl⟩, List.forall_mem_cons.mpr ⟨⟨fun _ _ _ => rfl, fun _ _ => rfl⟩, List.forall_mem_cons.mpr ⟨⟨fun _ _ _ => rfl, fun _ _ => rfl⟩, List.forall_mem_cons.mpr ⟨⟨fun _ _ _ => rfl, fun _ _ => rfl⟩, List.forall_mem_cons.mpr ⟨⟨fun _ _ _ => rfl, fun _ _ => rfl⟩, List.forall_mem_cons.mpr ⟨⟨fun _ _ _ => rfl, fun _ _ => rfl⟩, List.forall_mem_cons.mpr ⟨⟨fun _ _ _ => rfl, fun _ _ => rfl⟩, List.forall_mem_cons.mpr ⟨⟨fun _ _ _ => rfl, fun _ _ => rfl⟩, List.forall_mem_cons.mpr ⟨⟨fun _ _ _ => rfl, fun _ _ => rfl⟩, List.forall_mem_cons.mpr ⟨⟨fun _ _ _ => rfl, fun _ _ => rfl⟩, List.forall_mem_cons.mpr ⟨⟨fun _ _ _ => rfl, fun _ _ => rfl⟩, List.forall_mem_cons.mpr ⟨⟨fun _ _ _ => rfl, fun _ _ => rfl⟩, List.forall_mem_cons.mpr ⟨⟨fun _ _ _ => rfl, fun _ _ => rfl⟩, List.forall_mem_cons.mpr ⟨⟨fun _ _ _ => rfl, fun _ _ => rfl⟩, List.forall_mem_cons.mpr ⟨⟨fun _ _ _ => rfl, fun _ _ => rfl⟩, List.forall_mem_cons.mpr ⟨⟨fun _ _ _ => rfl, fun _ _ => rfl⟩, List.forall_mem_cons.mpr ⟨⟨fun _ _ _ => rfl, fun _ _ => rfl⟩, List.forall_mem_cons.mpr ⟨⟨fun _ _ _ => rfl, fun _ _ => rfl⟩, List.forall_mem_cons.mpr ⟨⟨fun _ _ _ => rfl, fun _ _ => rfl⟩, List.forall_mem_cons.mpr ⟨⟨fun _ _ _ => rfl, fun _ _ => rfl⟩, List.forall_mem_cons.mpr ⟨⟨fun _ _ _ => rfl, fun _ _ => rfl⟩, List.forall_mem_cons.mpr ⟨⟨fun _ _ _ => rfl, fun _ _ => rfl⟩, List.forall_mem_cons.mpr ⟨⟨fun _ _ _ => rfl, fun _ _ => rfl⟩, List.forall_mem_cons.mpr ⟨⟨fun _ _ _ => rfl, fun _ _ => rfl⟩, List.forall_mem_cons.mpr ⟨⟨fun _ _ _ => rfl, fun _ _ => rfl⟩, List.forall_mem_cons.mpr ⟨⟨fun _ _ _ => rfl, fun _ _ => rfl⟩, List.forall_mem_cons.mpr ⟨⟨fun _ _ _ => rfl, fun _ _ => rfl⟩, List.forall_mem_cons.mpr ⟨⟨fun _ _ _ => rfl, fun _ _ => rfl⟩, List.forall_mem_cons.mpr ⟨⟨fun _ _ _ => rfl, fun _ _ => rfl⟩, List.forall_mem_cons.mpr ⟨⟨fun _ _ _ => rfl, fun _ _ => rfl⟩, List.forall_mem_cons.mpr ⟨⟨fun _ _ _ => rfl, fun _ _ => rfl⟩, List.forall_mem_cons.mpr ⟨⟨fun _ _ _ => rfl, fun _ _ => rfl⟩, List.forall_mem_cons.mpr ⟨⟨fun _ _ _ => rfl, fun _ _ => rfl⟩, List.forall_mem_cons.mpr ⟨⟨fun _ _ _ => rfl, fun _ _ => rfl⟩, List.forall_mem_cons.mpr ⟨⟨fun _ _ _ => rfl, fun _ _ => rfl⟩, List.forall_mem_cons.mpr ⟨⟨fun _ _ _ => rfl, fun _ _ => rfl⟩, List.forall_mem_cons.mpr ⟨⟨fun _ _ _ => rfl, fun _ _ => rfl⟩, List.forall_mem_cons.mpr ⟨⟨fun _ _ _ => rfl, fun _ _ => rfl⟩, List.forall_mem_cons.mpr ⟨⟨fun _ _ _ => rfl, fun _ _ => rfl⟩, List.forall_mem_cons.mpr ⟨⟨fun _ _ _ => rfl, fun _ _ => rfl⟩, List.forall_mem_cons.mpr ⟨⟨fun _ _ _ => rfl, fun _ _ => rfl⟩, List.forall_mem_cons.mpr ⟨⟨fun _ _ _ => rfl, fun _ _ => rfl⟩, List.forall_mem_cons.mpr ⟨⟨fun _ _ _ => rfl, fun _ _ => rfl⟩, List.forall_mem_cons.mpr ⟨⟨fun _ _ _ => rfl, fun _ _ => rfl⟩, List.forall_mem_cons.mpr ⟨⟨fun _ _ _ => rfl, fun _ _ => rfl⟩, List.forall_mem_cons.mpr ⟨⟨fun _ _ _ => rfl, fun _ _ => rfl⟩, List.forall_mem_cons.mpr ⟨⟨fun _ _ _ => rfl, fun _ _ => rfl⟩, List.forall_mem_cons.mpr ⟨⟨fun _ _ _ => rfl, fun _ _ => rfl⟩, fun _ h => absurd h List.not_mem_nil⟩⟩⟩⟩⟩⟩⟩⟩⟩⟩⟩⟩⟩⟩⟩⟩⟩⟩⟩⟩⟩⟩⟩⟩⟩⟩⟩⟩⟩⟩⟩⟩⟩⟩⟩⟩⟩⟩⟩⟩⟩⟩⟩⟩⟩⟩⟩⟩⟩⟩
set_option maxRecDepth 20000 in
theorem rf_RP_1 : ∀ k ∈ [50, 51, 52, 53, 54, 55, 56, 57, 58, 59, 60, 61, 62, 63, 64, 65, 66, 67, 68, 69, 70, 71, 72, 73, 74, 75, 76, 77, 78, 79, 80, 81, 82, 83, 84, 85, 86, 87, 88, 89, 90, 91, 92, 93, 94, 95, 96, 97, 98, 99], rf_RP k := List.forall_mem_cons.mpr ⟨⟨fun _ _ _ => rfl, fun _ _ => rfl⟩, List.forall_mem_cons.mpr ⟨⟨fun _ _ _ => rfl, fun _ _ => rfl⟩, List.forall_mem_cons.mpr ⟨⟨fun _ _ _ => rfl, fun _ _ => rfl⟩, List.forall_mem_cons.mpr ⟨⟨fun _ _ _ => rfl, fun _ _ => rfl⟩, List.forall_mem_cons.mpr ⟨⟨fun _ _ _ => rfl, fun _ _ => rfl⟩, List.forall_mem_cons.mpr ⟨⟨fun _ _ _ => rfl, fun _ _ => rfl⟩, List.forall_mem_cons.mpr ⟨⟨fun _ _ _ => rfl, fun _ _ => rfl⟩, List.forall_mem_cons.mpr ⟨⟨fun _ _ _ => rfl, fun _ _ => rfl⟩, List.forall_mem_cons.mpr ⟨⟨fun _ _ _ => rfl, fun _ _ => rfl⟩, List.forall_mem_cons.mpr ⟨⟨fun _ _ _ => rfl, fun _ _ => rfl⟩, List.forall_mem_cons.mpr ⟨⟨fun _ _ _ => rfl, fun _ _ => rfl⟩, List.forall_mem_cons.mpr ⟨⟨fun _ _ _ => rfl, fun _ _ => rfl⟩, List.forall_mem_cons.mpr ⟨⟨fun _ _ _ => rfl, fun _ _ => rfl⟩, List.forall_mem_cons.mpr ⟨⟨fun _ _ _ => rfl, fun _ _ => rfl⟩, List.forall_mem_cons.mpr ⟨⟨fun _ _ _ => rfl, fun _ _ => rfl⟩, List.forall_mem_cons.mpr ⟨⟨fun _ _ _ => rfl, fun _ _ => rfl⟩, List.forall_mem_cons.mpr ⟨⟨fun _ _ _ => rfl, fun _ _ => rfl⟩, List.forall_mem_cons.mpr ⟨⟨fun _ _ _ => rfl, fun _ _ => rfl⟩, List.forall_mem_cons.mpr ⟨⟨fun _ _ _ => rfl, fun _ _ => rfl⟩, List.forall_mem_cons.mpr ⟨⟨fun _ _ _ => rfl, fun _ _ => rfl⟩, List.forall_mem_cons.mpr ⟨⟨fun _ _ _ => rfl, fun _ _ => rfl⟩, List.forall_mem_cons.mpr ⟨⟨fun _ _ _ => rfl, fun _ _ => rfl⟩, List.forall_mem_cons.mpr ⟨⟨fun _ _ _ => rfl, fun _ _ => rfl⟩, List.forall_mem_cons.mpr ⟨⟨fun _ _ _ => rfl, fun _ _ => rfl⟩, List.forall_mem_cons.mpr ⟨⟨fun _ _ _ => rfl, fun _ _ => rfl⟩, List.forall_mem_cons.mpr ⟨⟨fun _ _ _ => rfl, fun _ _ => rfl⟩, List.forall_mem_cons.mpr ⟨⟨fun _ _ _ => rfl, fun _ _ => rfl⟩, List.forall_mem_cons.mpr ⟨⟨fun _ _ _ => rfl, fun _ _ => rfl⟩, List.forall_mem_cons.mpr ⟨⟨fun _ _ _ => rfl, fun _ _ => rfl⟩, List.forall_mem_cons.mpr ⟨⟨fun _ _ _ => rfl, fun _ _ => rfl⟩, List.forall_mem_cons.mpr ⟨⟨fun _ _ _ => rfl, fun _ _ => rfl⟩, List.forall_mem_cons.mpr ⟨⟨fun _ _ _ => rfl, fun _ _ => rfl⟩, List.forall_mem_cons.mpr ⟨⟨fun _ _ _ => rfl, fun _ _ => rfl⟩, List.forall_mem_cons.mpr ⟨⟨fun _ _ _ => rfl, fun _ _ => rfl⟩, List.forall_mem_cons.mpr ⟨⟨fun _ _ _ => rfl, fun _ _ => rfl⟩, List.forall_mem_cons.mpr ⟨⟨fun _ _ _ => rfl, fun _ _ => rfl⟩, List.forall_mem_cons.mpr ⟨⟨fun _ _ _ => rfl, fun _ _ => rfl⟩, List.forall_mem_cons.mpr ⟨⟨fun _ _ _ => rfl, fun _ _ => rfl⟩, List.forall_mem_cons.mpr ⟨⟨fun _ _ _ => rfl, fun _ _ => rfl⟩, List.forall_mem_cons.mpr ⟨⟨fun _ _ _ => rfl, fun _ _ => rfl⟩, List.forall_mem_cons.mpr ⟨⟨fun _ _ _ => rfl, fun _ _ => rfl⟩, List.forall_mem_cons.mpr ⟨⟨fun _ _ _ => rfl, fun _ _ => rfl⟩, List.forall_mem_cons.mpr ⟨⟨fun _ _ _ => rfl, fun _ _ => rfl⟩, List.forall_mem_cons.mpr ⟨⟨fun _ _ _ => rfl, fun _ _ => rfl⟩, List.forall_mem_cons.mpr ⟨⟨fun _ _ _ => rfl, fun _ _ => rfl⟩, List.forall_mem_cons.mpr ⟨⟨fun _ _ _ => rfl, fun _ _ => rfl⟩, List.forall_mem_cons.mpr ⟨⟨fun _ _ _ => rfl, fun _ _ => rfl⟩, List.forall_mem_cons.mpr ⟨⟨fun _ _ _ => rfl, fun _ _ => rfl⟩, List.forall_mem_cons.mpr ⟨⟨fun _ _ _ => rfl, fun _ _ => rfl⟩, List.forall_mem_cons.mpr ⟨⟨fun _ _ _ => rfl, fun _ _ => rfl⟩, fun _ h => absurd h List.not_mem_nil⟩⟩⟩⟩⟩⟩⟩⟩⟩⟩⟩⟩⟩⟩⟩⟩⟩⟩⟩⟩⟩⟩⟩⟩⟩⟩⟩⟩⟩⟩⟩⟩⟩⟩⟩⟩⟩⟩⟩⟩⟩⟩⟩⟩⟩⟩⟩⟩⟩⟩
set_option maxRecDepth 20000 in
theorem rf_RP_2 : ∀ k ∈ [100, 101, 102, 103, 104, 105, 106, 107, 108, 109, 110, 111, 112, 113, 114, 115, 116, 117, 118, 119, 120, 121, 122, 123, 124, 125, 126, 127, 128, 129, 130, 131, 132, 133, 134, 135, 136, 137, 138, 139, 140, 141, 142, 143, 144, 145, 146, 147, 148, 149], rf_RP k := List.forall_mem_cons.mpr ⟨⟨fun _ _ _ => rfl, fun _ _ => rfl⟩, List.forall_mem_cons.mpr ⟨⟨fun _ _ _ => rfl, fun _ _ => rfl⟩, List.forall_mem_cons.mpr ⟨⟨fun _ _ _ => rfl, fun _ _ => rfl⟩, List.forall_mem_cons.mpr ⟨⟨fun _ _ _ => rfl, fun _ _ => rfl⟩, List.forall_mem_cons.mpr ⟨⟨fun _ _ _ => rfl, fun _ _ => rfl⟩, List.forall_mem_cons.mpr ⟨⟨fun _ _ _ => rfl, fun _ _ => rfl⟩, List.forall_mem_cons.mpr ⟨⟨fun _ _ _ => rfl, fun _ _ => rfl⟩, List.forall_mem_cons.mpr ⟨⟨fun _ _ _ => rfl, fun _ _ => rfl⟩, List.forall_mem_cons.mpr ⟨⟨fun _ _ _ => rfl, fun _ _ => rfl⟩, List.forall_mem_cons.mpr ⟨⟨fun _ _ _ => rfl, fun _ _ => rfl⟩, List.forall_mem_cons.mpr ⟨⟨fun _ _ _ => rfl, fun _ _ => rfl⟩, List.forall_mem_cons.mpr ⟨⟨fun _ _ _ => rfl, fun _ _ => rfl⟩, List.forall_mem_cons.mpr ⟨⟨fun _ _ _ => rfl, fun _ _ => rfl⟩, List.forall_mem_cons.mpr ⟨⟨fun _ _ _ => rfl, fun _ _ => rfl⟩, List.forall_mem_cons.mpr ⟨⟨fun _ _ _ => rfl, fun _ _ => rfl⟩, List.forall_mem_cons.mpr ⟨⟨fun _ _ _ => rfl, fun _ _ => rfl⟩, List.forall_mem_cons.mpr ⟨⟨fun _ _ _ => rfl, fun _ _ => rfl⟩, List.forall_mem_cons.mpr ⟨⟨fun _ _ _ => rfl, fun _ _ => rfl⟩, List.forall_mem_cons.mpr ⟨⟨fun _ _ _ => rfl, fun _ _ => rfl⟩, List.forall_mem_cons.mpr ⟨⟨fun _ _ _ => rfl, fun _ _ => rfl⟩, List.forall_mem_cons.mpr ⟨⟨fun _ _ _ => rfl, fun _ _ => rfl⟩, List.forall_mem_cons.mpr ⟨⟨fun _ _ _ => rfl, fun _ _ => rfl⟩, List.forall_mem_cons.mpr ⟨⟨fun _ _ _ => rfl, fun _ _ => rfl⟩, List.forall_mem_cons.mpr ⟨⟨fun _ _ _ => rfl, fun _ _ => rfl⟩, List.forall_mem_cons.mpr ⟨⟨fun _ _ _ => rfl, fun _ _ => rfl⟩, List.forall_mem_cons.mpr ⟨⟨fun _ _ _ => rfl, fun _ _ => rfl⟩, List.forall_mem_cons.mpr ⟨⟨fun _ _ _ => rfl, fun _ _ => rfl⟩, List.forall_mem_cons.mpr ⟨⟨fun _ _ _ => rfl, fun _ _ => rfl⟩, List.forall_mem_cons.mpr ⟨⟨fun _ _ _ => rfl, fun _ _ => rfl⟩, List.forall_mem_cons.mpr ⟨⟨fun _ _ _ => rfl, fun _ _ => rfl⟩, List.forall_mem_cons.mpr ⟨⟨fun _ _ _ => rfl, fun _ _ => rfl⟩, List.forall_mem_cons.mpr ⟨⟨fun _ _ _ => rfl, fun _ _ => rfl⟩, List.forall_mem_cons.mpr ⟨⟨fun _ _ _ => rfl, fun _ _ => rfl⟩, List.forall_mem_cons.mpr ⟨⟨fun _ _ _ => rfl, fun _ _ => rfl⟩, List.forall_mem_cons.mpr ⟨⟨fun _ _ _ => rfl, fun _ _ => rfl⟩, List.forall_mem_cons.mpr ⟨⟨fun _ _ _ => rfl, fun _ _ => rfl⟩, List.forall_mem_cons.mpr ⟨⟨fun _ _ _ => rfl, fun _ _ => rfl⟩, List.forall_mem_cons.mpr ⟨⟨fun _ _ _ => rfl, fun _ _ => rfl⟩, List.forall_mem_cons.mpr ⟨⟨fun _ _ _ => rfl, fun _ _ => rfl⟩, List.forall_mem_cons.mpr ⟨⟨fun _ _ _ => rfl, fun _ _ => rfl⟩, List.forall_mem_cons.mpr ⟨⟨fun _ _ _ => rfl, fun _ _ => rfl⟩, List.forall_mem_cons.mpr ⟨⟨fun _ _ _ => rfl, fun _ _ => rfl⟩, List.forall_mem_cons.mpr ⟨⟨fun _ _ _ => rfl, fun _ _ => rfl⟩, List.forall_mem_cons.mpr ⟨⟨fun _ _ _ => rfl, fun _ _ => rfl⟩, List.forall_mem_cons.mpr ⟨⟨fun _ _ _ => rfl, fun _ _ => rfl⟩, List.forall_mem_cons.mpr ⟨⟨fun _ _ _ => rfl, fun _ _ => rfl⟩, List.forall_mem_cons.mpr ⟨⟨fun _ _ _ => rfl, fun _ _ => rfl⟩, List.forall_mem_cons.mpr ⟨⟨fun _ _ _ => rfl, fun _ _ => rfl⟩, List.forall_mem_cons.mpr ⟨⟨fun _ _ _ => rfl, fun _ _ => rfl⟩, List.forall_mem_cons.mpr ⟨⟨fun _ _ _ => rfl, fun _ _ => rfl⟩, fun _ h => absurd h List.not_mem_nil⟩⟩⟩⟩⟩⟩⟩⟩⟩⟩⟩⟩⟩⟩⟩⟩⟩⟩⟩⟩⟩⟩⟩⟩⟩⟩⟩⟩⟩⟩⟩⟩⟩⟩⟩⟩⟩⟩⟩⟩⟩⟩⟩⟩⟩⟩⟩⟩⟩⟩
set_option maxRecDepth 20000 in
theorem rf_RP_3 : ∀ k ∈ [150, 151, 152, 153, 154, 155, 156, 157, 158, 159, 160, 161, 162, 163, 164, 165, 166, 167, 168, 169, 170, 171, 172, 173, 174, 175, 176, 177, 178, 179, 180, 181, 182, 183, 184, 185, 186, 187, 188, 189, 190, 191, 192, 193, 194, 195, 196, 197, 198, 199], rf_RP k := List.forall_mem_cons.mpr ⟨⟨fun _ _ _ => rfl, fun _ _ => rfl⟩, List.forall_mem_cons.mpr ⟨⟨fun _ _ _ => rfl, fun _ _ => rfl⟩, List.forall_mem_cons.mpr ⟨⟨fun _ _ _ => rfl, fun _ _ => rfl⟩, List.forall_mem_cons.mpr ⟨⟨fun _ _ _ => rfl, fun _ _ => rfl⟩, List.forall_mem_cons.mpr ⟨⟨fun _ _ _ => rfl, fun _ _ => rfl⟩, List.forall_mem_cons.mpr ⟨⟨fun _ _ _ => rfl, fun _ _ => rfl⟩, List.forall_mem_cons.mpr ⟨⟨fun _ _ _ => rfl, fun _ _ => rfl⟩, List.forall_mem_cons.mpr ⟨⟨fun _ _ _ => rfl, fun _ _ => rfl⟩, List.forall_mem_cons.mpr ⟨⟨fun _ _ _ => rfl, fun _ _ => rfl⟩, List.forall_mem_cons.mpr ⟨⟨fun _ _ _ => rfl, fun _ _ => rfl⟩, List.forall_mem_cons.mpr ⟨⟨fun _ _ _ => rfl, fun _ _ => rfl⟩, List.forall_mem_cons.mpr ⟨⟨fun _ _ _ => rfl, fun _ _ => rfl⟩, List.forall_mem_cons.mpr ⟨⟨fun _ _ _ => rfl, fun _ _ => rfl⟩, List.forall_mem_cons.mpr ⟨⟨fun _ _ _ => rfl, fun _ _ => rfl⟩, List.forall_mem_cons.mpr ⟨⟨fun _ _ _ => rfl, fun _ _ => rfl⟩, List.forall_mem_cons.mpr ⟨⟨fun _ _ _ => rfl, fun _ _ => rfl⟩, List.forall_mem_cons.mpr ⟨⟨fun _ _ _ => rfl, fun _ _ => rfl⟩, List.forall_mem_cons.mpr ⟨⟨fun _ _ _ => rfl, fun _ _ => rfl⟩, List.forall_mem_cons.mpr ⟨⟨fun _ _ _ => rfl, fun _ _ => rfl⟩, List.forall_mem_cons.mpr ⟨⟨fun _ _ _ => rfl, fun _ _ => rfl⟩, List.forall_mem_cons.mpr ⟨⟨fun _ _ _ => rfl, fun _ _ => rfl⟩, List.forall_mem_cons.mpr ⟨⟨fun _ _ _ => rfl, fun _ _ => rfl⟩, List.forall_mem_cons.mpr ⟨⟨fun _ _ _ => rfl, fun _ _ => rfl⟩, List.forall_mem_cons.mpr ⟨⟨fun _ _ _ => rfl, fun _ _ => rfl⟩, List.forall_mem_cons.mpr ⟨⟨fun _ _ _ => rfl, fun _ _ => rfl⟩, List.forall_mem_cons.mpr ⟨⟨fun _ _ _ => rfl, fun _ _ => rfl⟩, List.forall_mem_cons.mpr ⟨⟨fun _ _ _ => rfl, fun _ _ => rfl⟩, List.forall_mem_cons.mpr ⟨⟨fun _ _ _ => rfl, fun _ _ => rfl⟩, List.forall_mem_cons.mpr ⟨⟨fun _ _ _ => rfl, fun _ _ => rfl⟩, List.forall_mem_cons.mpr ⟨⟨fun _ _ _ => rfl, fun _ _ => rfl⟩, List.forall_mem_cons.mpr ⟨⟨fun _ _ _ => rfl, fun _ _ => rfl⟩, List.forall_mem_cons.mpr ⟨⟨fun _ _ _ => rfl, fun _ _ => rfl⟩, List.forall_mem_cons.mpr ⟨⟨fun _ _ _ => rfl, fun _ _ => rfl⟩, List.forall_mem_cons.mpr ⟨⟨fun _ _ _ => rfl, fun _ _ => rfl⟩, List.forall_mem_cons.mpr ⟨⟨fun _ _ _ => rfl, fun _ _ => rfl⟩, List.forall_mem_cons.mpr ⟨⟨fun _ _ _ => rfl, fun _ _ => rfl⟩, List.forall_mem_cons.mpr ⟨⟨fun _ _ _ => rfl, fun _ _ => rfl⟩, List.forall_mem_cons.mpr ⟨⟨fun _ _ _ => rfl, fun _ _ => rfl⟩, List.forall_mem_cons.mpr ⟨⟨fun _ _ _ => rfl, fun _ _ => rfl⟩, List.forall_mem_cons.mpr ⟨⟨fun _ _ _ => rfl, fun _ _ => rfl⟩, List.forall_mem_cons.mpr ⟨⟨fun _ _ _ => rfl, fun _ _ => rfl⟩, List.forall_mem_cons.mpr ⟨⟨fun _ _ _ => rfl, fun _ _ => rfl⟩, List.forall_mem_cons.mpr ⟨⟨fun _ _ _ => rfl, fun _ _ => rfl⟩, List.forall_mem_cons.mpr ⟨⟨fun _ _ _ => rfl, fun _ _ => rfl⟩, List.forall_mem_cons.mpr ⟨⟨fun _ _ _ => rfl, fun _ _ => rfl⟩, List.forall_mem_cons.mpr ⟨⟨fun _ _ _ => rfl, fun _ _ => rfl⟩, List.forall_mem_cons.mpr ⟨⟨fun _ _ _ => rfl, fun _ _ => rfl⟩, List.forall_mem_cons.mpr ⟨⟨fun _ _ _ => rfl, fun _ _ => rfl⟩, List.forall_mem_cons.mpr ⟨⟨fun _ _ _ => rfl, fun _ _ => rfl⟩, List.forall_mem_cons.mpr ⟨⟨fun _ _ _ => rfl, fun _ _ => rfl⟩, fun _ h => absurd h List.not_mem_nil⟩⟩⟩⟩⟩⟩⟩⟩⟩⟩⟩⟩⟩⟩⟩⟩⟩⟩⟩⟩⟩⟩⟩⟩⟩⟩⟩⟩⟩⟩⟩⟩⟩⟩⟩⟩⟩⟩⟩⟩⟩⟩⟩⟩⟩⟩⟩⟩⟩⟩
set_option maxRecDepth 20000 in
theorem rf_RP_4 : ∀ k ∈ [200, 201, 202, 203, 204, 205, 207, 208, 209, 210, 211, 212, 213, 214, 215, 216, 217, 218, 219, 220, 221, 222, 223, 224, 225, 226, 227, 228, 230, 231, 232, 233, 234, 235, 236, 237, 238, 239, 240, 241, 242, 243, 244, 245, 246, 247, 248, 249, 250, 251], rf_RP k := List.forall_mem_cons.mpr ⟨⟨fun _ _ _ => rfl, fun _ _ => rfl⟩, List.forall_mem_cons.mpr ⟨⟨fun _ _ _ => rfl, fun _ _ => rfl⟩, List.forall_mem_cons.mpr ⟨⟨fun _ _ _ => rfl, fun _ _ => rfl⟩, List.forall_mem_cons.mpr ⟨⟨fun _ _ _ => rfl, fun _ _ => rfl⟩, List.forall_mem_cons.mpr ⟨⟨fun _ _ _ => rfl, fun _ _ => rfl⟩, List.forall_mem_cons.mpr ⟨⟨fun _ _ _ => rfl, fun _ _ => rfl⟩, List.forall_mem_cons.mpr ⟨⟨fun _ _ _ => rfl, fun _ _ => rfl⟩, List.forall_mem_cons.mpr ⟨⟨fun _ _ _ => rfl, fun _ _ => rfl⟩, List.forall_mem_cons.mpr ⟨⟨fun _ _ _ => rfl, fun _ _ => rfl⟩, List.forall_mem_cons.mpr ⟨⟨fun _ _ _ => rfl, fun _ _ => rfl⟩, List.forall_mem_cons.mpr ⟨⟨fun _ _ _ => rfl, fun _ _ => rfl⟩, List.forall_mem_cons.mpr ⟨⟨fun _ _ _ => rfl, fun _ _ => rfl⟩, List.forall_mem_cons.mpr ⟨⟨fun _ _ _ => rfl, fun _ _ => rfl⟩, List.forall_mem_cons.mpr ⟨⟨fun _ _ _ => rfl, fun _ _ => rfl⟩, List.forall_mem_cons.mpr ⟨⟨fun _ _ _ => rfl, fun _ _ => rfl⟩, List.forall_mem_cons.mpr ⟨⟨fun _ _ _ => rfl, fun _ _ => rfl⟩, List.forall_mem_cons.mpr ⟨⟨fun _ _ _ => rfl, fun _ _ => rfl⟩, List.forall_mem_cons.mpr ⟨⟨fun _ _ _ => rfl, fun _ _ => rfl⟩, List.forall_mem_cons.mpr ⟨⟨fun _ _ _ => rfl, fun _ _ => rfl⟩, List.forall_mem_cons.mpr ⟨⟨fun _ _ _ => rfl, fun _ _ => rfl⟩, List.forall_mem_cons.mpr ⟨⟨fun _ _ _ => rfl, fun _ _ => rfl⟩, List.forall_mem_cons.mpr ⟨⟨fun _ _ _ => rfl, fun _ _ => rfl⟩, List.forall_mem_cons.mpr ⟨⟨fun _ _ _ => rfl, fun _ _ => rfl⟩, List.forall_mem_cons.mpr ⟨⟨fun _ _ _ => rfl, fun _ _ => rfl⟩, List.forall_mem_cons.mpr ⟨⟨fun _ _ _ => rfl, fun _ _ => rfl⟩, List.forall_mem_cons.mpr ⟨⟨fun _ _ _ => rfl, fun _ _ => rfl⟩, List.forall_mem_cons.mpr ⟨⟨fun _ _ _ => rfl, fun _ _ => rfl⟩, List.forall_mem_cons.mpr ⟨⟨fun _ _ _ => rfl, fun _ _ => rfl⟩, List.forall_mem_cons.mpr ⟨⟨fun _ _ _ => rfl, fun _ _ => rfl⟩, List.forall_mem_cons.mpr ⟨⟨fun _ _ _ => rfl, fun _ _ => rfl⟩, List.forall_mem_cons.mpr ⟨⟨fun _ _ _ => rfl, fun _ _ => rfl⟩, List.forall_mem_cons.mpr ⟨⟨fun _ _ _ => rfl, fun _ _ => rfl⟩, List.forall_mem_cons.mpr ⟨⟨fun _ _ _ => rfl, fun _ _ => rfl⟩, List.forall_mem_cons.mpr ⟨⟨fun _ _ _ => rfl, fun _ _ => rfl⟩, List.forall_mem_cons.mpr ⟨⟨fun _ _ _ => rfl, fun _ _ => rfl⟩, List.forall_mem_cons.mpr ⟨⟨fun _ _ _ => rfl, fun _ _ => rfl⟩, List.forall_mem_cons.mpr ⟨⟨fun _ _ _ => rfl, fun _ _ => rfl⟩, List.forall_mem_cons.mpr ⟨⟨fun _ _ _ => rfl, fun _ _ => rfl⟩, List.forall_mem_cons.mpr ⟨⟨fun _ _ _ => rfl, fun _ _ => rfl⟩, List.forall_mem_cons.mpr ⟨⟨fun _ _ _ => rfl, fun _ _ => rfl⟩, List.forall_mem_cons.mpr ⟨⟨fun _ _ _ => rfl, fun _ _ => rfl⟩, List.forall_mem_cons.mpr ⟨⟨fun _ _ _ => rfl, fun _ _ => rfl⟩, List.forall_mem_cons.mpr ⟨⟨fun _ _ _ => rfl, fun _ _ => rfl⟩, List.forall_mem_cons.mpr ⟨⟨fun _ _ _ => rfl, fun _ _ => rfl⟩, List.forall_mem_cons.mpr ⟨⟨fun _ _ _ => rfl, fun _ _ => rfl⟩, List.forall_mem_cons.mpr ⟨⟨fun _ _ _ => rfl, fun _ _ => rfl⟩, List.forall_mem_cons.mpr ⟨⟨fun _ _ _ => rfl, fun _ _ => rfl⟩, List.forall_mem_cons.mpr ⟨⟨fun _ _ _ => rfl, fun _ _ => rfl⟩, List.forall_mem_cons.mpr ⟨⟨fun _ _ _ => rfl, fun _ _ => rfl⟩, List.forall_mem_cons.mpr ⟨⟨fun _ _ _ => rfl, fun _ _ => rfl⟩, fun _ h => absurd h List.not_mem_nil⟩⟩⟩⟩⟩⟩⟩⟩⟩⟩⟩⟩⟩⟩⟩⟩⟩⟩⟩⟩⟩⟩⟩⟩⟩⟩⟩⟩⟩⟩⟩⟩⟩⟩⟩⟩⟩⟩⟩⟩⟩⟩⟩⟩⟩⟩⟩⟩⟩⟩
set_option maxRecDepth 20000 in
theorem rf_RP_5 : ∀ k ∈ [252, 253, 254, 255, 256, 257, 258, 259, 260, 261, 262, 263, 264, 265, 266, 267, 268, 269, 270, 271, 272, 273, 274, 275, 276, 277, 278, 279, 280, 281, 282, 283, 284, 285, 286, 287, 288, 289, 290, 291, 292, 293, 294, 295, 296, 297, 298, 299, 300, 301], rf_RP k := List.forall_mem_cons.mpr ⟨⟨fun _ _ _ => rfl, fun _ _ => rfl⟩, List.forall_mem_cons.mpr ⟨⟨fun _ _ _ => rfl, fun _ _ => rfl⟩, List.forall_mem_cons.mpr ⟨⟨fun _ _ _ => rfl, fun _ _ => rfl⟩, List.forall_mem_cons.mpr ⟨⟨fun _ _ _ => rfl, fun _ _ => rfl⟩, List.forall_mem_cons.mpr ⟨⟨fun _ _ _ => rfl, fun _ _ => rfl⟩, List.forall_mem_cons.mpr ⟨⟨fun _ _ _ => rfl, fun _ _ => rfl⟩, List.forall_mem_cons.mpr ⟨⟨fun _ _ _ => rfl, fun _ _ => rfl⟩, List.forall_mem_cons.mpr ⟨⟨fun _ _ _ => rfl, fun _ _ => rfl⟩, List.forall_mem_cons.mpr ⟨⟨fun _ _ _ => rfl, fun _ _ => rfl⟩, List.forall_mem_cons.mpr ⟨⟨fun _ _ _ => rfl, fun _ _ => rfl⟩, List.forall_mem_cons.mpr ⟨⟨fun _ _ _ => rfl, fun _ _ => rfl⟩, List.forall_mem_cons.mpr ⟨⟨fun _ _ _ => rfl, fun _ _ => rfl⟩, List.forall_mem_cons.mpr ⟨⟨fun _ _ _ => rfl, fun _ _ => rfl⟩, List.forall_mem_cons.mpr ⟨⟨fun _ _ _ => rfl, fun _ _ => rfl⟩, List.forall_mem_cons.mpr ⟨⟨fun _ _ _ => rfl, fun _ _ => rfl⟩, List.forall_mem_cons.mpr ⟨⟨fun _ _ _ => rfl, fun _ _ => rfl⟩, List.forall_mem_cons.mpr ⟨⟨fun _ _ _ => rfl, fun _ _ => rfl⟩, List.forall_mem_cons.mpr ⟨⟨fun _ _ _ => rfl, fun _ _ => rfl⟩, List.forall_mem_cons.mpr ⟨⟨fun _ _ _ => rfl, fun _ _ => rfl⟩, List.forall_mem_cons.mpr ⟨⟨fun _ _ _ => rfl, fun _ _ => rfl⟩, List.forall_mem_cons.mpr ⟨⟨fun _ _ _ => rfl, fun _ _ => rfl⟩, List.forall_mem_cons.mpr ⟨⟨fun _ _ _ => rfl, fun _ _ => rfl⟩, List.forall_mem_cons.mpr ⟨⟨fun _ _ _ => rfl, fun _ _ => rfl⟩, List.forall_mem_cons.mpr ⟨⟨fun _ _ _ => rfl, fun _ _ => rfl⟩, List.forall_mem_cons.mpr ⟨⟨fun _ _ _ => rfl, fun _ _ => rfl⟩, List.forall_mem_cons.mpr ⟨⟨fun _ _ _ => rfl, fun _ _ => rfl⟩, List.forall_mem_cons.mpr ⟨⟨fun _ _ _ => rfl, fun _ _ => rfl⟩, List.forall_mem_cons.mpr ⟨⟨fun _ _ _ => rfl, fun _ _ => rfl⟩, List.forall_mem_cons.mpr ⟨⟨fun _ _ _ => rfl, fun _ _ => rfl⟩, List.forall_mem_cons.mpr ⟨⟨fun _ _ _ => rfl, fun _ _ => rfl⟩, List.forall_mem_cons.mpr ⟨⟨fun _ _ _ => rfl, fun _ _ => rfl⟩, List.forall_mem_cons.mpr ⟨⟨fun _ _ _ => rfl, fun _ _ => rfl⟩, List.forall_mem_cons.mpr ⟨⟨fun _ _ _ => rfl, fun _ _ => rfl⟩, List.forall_mem_cons.mpr ⟨⟨fun _ _ _ => rfl, fun _ _ => rfl⟩, List.forall_mem_cons.mpr ⟨⟨fun _ _ _ => rfl, fun _ _ => rfl⟩, List.forall_mem_cons.mpr ⟨⟨fun _ _ _ => rfl, fun _ _ => rfl⟩, List.forall_mem_cons.mpr ⟨⟨fun _ _ _ => rfl, fun _ _ => rfl⟩, List.forall_mem_cons.mpr ⟨⟨fun _ _ _ => rfl, fun _ _ => rfl⟩, List.forall_mem_cons.mpr ⟨⟨fun _ _ _ => rfl, fun _ _ => rfl⟩, List.forall_mem_cons.mpr ⟨⟨fun _ _ _ => rfl, fun _ _ => rfl⟩, List.forall_mem_cons.mpr ⟨⟨fun _ _ _ => rfl, fun _ _ => rfl⟩, List.forall_mem_cons.mpr ⟨⟨fun _ _ _ => rfl, fun _ _ => rfl⟩, List.forall_mem_cons.mpr ⟨⟨fun _ _ _ => rfl, fun _ _ => rfl⟩, List.forall_mem_cons.mpr ⟨⟨fun _ _ _ => rfl, fun _ _ => rfl⟩, List.forall_mem_cons.mpr ⟨⟨fun _ _ _ => rfl, fun _ _ => rfl⟩, List.forall_mem_cons.mpr ⟨⟨fun _ _ _ => rfl, fun _ _ => rfl⟩, List.forall_mem_cons.mpr ⟨⟨fun _ _ _ => rfl, fun _ _ => rfl⟩, List.forall_mem_cons.mpr ⟨⟨fun _ _ _ => rfl, fun _ _ => rfl⟩, List.forall_mem_cons.mpr ⟨⟨fun _ _ _ => rfl, fun _ _ => rfl⟩, List.forall_mem_cons.mpr ⟨⟨fun _ _ _ => rfl, fun _ _ => rfl⟩, fun _ h => absurd h List.not_mem_nil⟩⟩⟩⟩⟩⟩⟩⟩⟩⟩⟩⟩⟩⟩⟩⟩⟩⟩⟩⟩⟩⟩⟩⟩⟩⟩⟩⟩⟩⟩⟩⟩⟩⟩⟩⟩⟩⟩⟩⟩⟩⟩⟩⟩⟩⟩⟩⟩⟩⟩
set_option maxRecDepth 20000 in
theorem rf_RP_6 : ∀ k ∈ [302, 303, 304, 305], rf_RP k := List.forall_mem_cons.mpr ⟨⟨fun _ _ _ => rfl, fun _ _ => rfl⟩, List.forall_mem_cons.mpr ⟨⟨fun _ _ _ => rfl, fun _ _ => rfl⟩, List.forall_mem_cons.mpr ⟨⟨fun _ _ _ => rfl, fun _ _ => rfl⟩, List.forall_mem_cons.mpr ⟨⟨fun _ _ _ => rfl, fun _ _ => rfl⟩, fun _ h => absurd h List.not_mem_nil⟩⟩⟩⟩
def rf_ks : List Nat := [0, 1, 2, 3, 4, 5, 6, 7, 8, 9, 10, 11, 12, 13, 14, 15, 16, 17, 18, 19, 20, 21, 22, 23, 24, 25, 26, 27, 28, 29, 30, 31, 32, 33, 34, 35, 36, 37, 38, 39, 40, 41, 42, 43, 44, 45, 46, 47, 48, 49] ++ [50, 51, 52, 53, 54, 55, 56, 57, 58, 59, 60, 61, 62, 63, 64, 65, 66, 67, 68, 69, 70, 71, 72, 73, 74, 75, 76, 77, 78, 79, 80, 81, 82, 83, 84, 85, 86, 87, 88, 89, 90, 91, 92, 93, 94, 95, 96, 97, 98, 99] ++ [100, 101, 102, 103, 104, 105, 106, 107, 108, 109, 110, 111, 112, 113, 114, 115, 116, 117, 118, 119, 120, 121, 122, 123, 124, 125, 126, 127, 128, 129, 130, 131, 132, 133, 134, 135, 136, 137, 138, 139, 140, 141, 142, 143, 144, 145, 146, 147, 148, 149] ++ [150, 151, 152, 153, 154, 155, 156, 157, 158, 159, 160, 161, 162, 163, 164, 165, 166, 167, 168, 169, 170, 171, 172, 173, 174, 175, 176, 177, 178, 179, 180, 181, 182, 183, 184, 185, 186, 187, 188, 189, 190, 191, 192, 193, 194, 195, 196, 197, 198, 199] ++ [200, 201, 202, 203, 204, 205, 207, 208, 209, 210, 211, 212, 213, 214, 215, 216, 217, 218, 219, 220, 221, 222, 223, 224, 225, 226, 227, 228, 230, 231, 232, 233, 234, 235, 236, 237, 238, 239, 240, 241, 242, 243, 244, 245, 246, 247, 248, 249, 250, 251] ++ [252, 253, 254, 255, 256, 257, 258, 259, 260, 261, 262, 263, 264, 265, 266, 267, 268, 269, 270, 271, 272, 273, 274, 275, 276, 277, 278, 279, 280, 281, 282, 283, 284, 285, 286, 287, 288, 289, 290, 291, 292, 293, 294, 295, 296, 297, 298, 299, 300, 301] ++ [302, 303, 304, 305]
set_option maxRecDepth 20000 in
theorem rf_ks_eq : ((List.range 306).filter (fun k => !(k == 206) && !(k == 229))) = rf_ks := by decide +kernel
theorem rf_RPs : ∀ k, k < 306 → k ≠ 206 → k ≠ 229 → rf_RP k := by
  intro k h1 h2 h3
  have hm : k ∈ rf_ks := by
    rw [← rf_ks_eq]
    exact List.mem_filter.mpr ⟨List.mem_range.mpr h1, by simp [h2, h3]⟩
  unfold rf_ks at hm
  simp only [List.mem_append] at hm
  rcases hm with (((((h | h) | h) | h) | h) | h) | h
  · exact rf_RP_0 k h
  · exact rf_RP_1 k h
  · exact rf_RP_2 k h
  · exact rf_RP_3 k h
  · exact rf_RP_4 k h
  · exact rf_RP_5 k h
  · exact rf_RP_6 k h
set_option maxRecDepth 20000 in
theorem rf_RM_0 : ∀ i ∈ [0, 1, 2, 3, 4, 5, 6, 7, 8, 9, 10, 11, 12, 13, 14, 15, 16, 17, 18, 19, 20, 21, 22, 23, 24, 25, 26, 27, 28, 30, 31, 32, 33, 34, 35, 36, 37, 38, 39, 40, 42, 43, 44, 45, 46, 47, 48, 49, 50, 51], ∀ (w w' : rf_w), rf_Rt w 206 i = rf_Rt w' 206 i := List.forall_mem_cons.mpr ⟨fun _ _ => rfl, List.forall_mem_cons.mpr ⟨fun _ _ => rfl, List.forall_mem_cons.mpr ⟨fun _ _ => rfl, List.forall_mem_cons.mpr ⟨fun _ _ => rfl, List.forall_mem_cons.mpr ⟨fun _ _ => rfl, List.forall_mem_cons.mpr ⟨fun _ _ => rfl, List.forall_mem_cons.mpr ⟨fun _ _ => rfl, List.forall_mem_cons.mpr ⟨fun _ _ => rfl, List.forall_mem_cons.mpr ⟨fun _ _ => rfl, List.forall_mem_cons.mpr ⟨fun _ _ => rfl, List.forall_mem_cons.mpr ⟨fun _ _ => rfl, List.forall_mem_cons.mpr ⟨fun _ _ => rfl, List.forall_mem_cons.mpr ⟨fun _ _ => rfl, List.forall_mem_cons.mpr ⟨fun _ _ => rfl, List.forall_mem_cons.mpr ⟨fun _ _ => rfl, List.forall_mem_cons.mpr ⟨fun _ _ => rfl, List.forall_mem_cons.mpr ⟨fun _ _ => rfl, List.forall_mem_cons.mpr ⟨fun _ _ => rfl, List.forall_mem_cons.mpr ⟨fun _ _ => rfl, List.forall_mem_cons.mpr ⟨fun _ _ => rfl, List.forall_mem_cons.mpr ⟨fun _ _ => rfl, List.forall_mem_cons.mpr ⟨fun _ _ => rfl, List.forall_mem_cons.mpr ⟨fun _ _ => rfl, List.forall_mem_cons.mpr ⟨fun _ _ => rfl, List.forall_mem_cons.mpr ⟨fun _ _ => rfl, List.forall_mem_cons.mpr ⟨fun _ _ => rfl, List.forall_mem_cons.mpr ⟨fun _ _ => rfl, List.forall_mem_cons.mpr ⟨fun _ _ => rfl, List.forall_mem_cons.mpr ⟨fun _ _ => rfl, List.forall_mem_cons.mpr ⟨fun _ _ => rfl, List.forall_mem_cons.mpr ⟨fun _ _ => rfl, List.forall_mem_cons.mpr ⟨fun _ _ => rfl, List.forall_mem_cons.mpr ⟨fun _ _ => rfl, List.forall_mem_cons.mpr ⟨fun _ _ => rfl, List.forall_mem_cons.mpr ⟨fun _ _ => rfl, List.forall_mem_cons.mpr ⟨fun _ _ => rfl, List.forall_mem_cons.mpr ⟨fun _ _ => rfl, List.forall_mem_cons.mpr ⟨fun _ _ => rfl, List.forall_mem_cons.mpr ⟨fun _ _ => rfl, List.forall_mem_cons.mpr ⟨fun _ _ => rfl, List.forall_mem_cons.mpr ⟨fun _ _ => rfl, List.forall_mem_cons.mpr ⟨fun _ _ => rfl, List.forall_mem_cons.mpr ⟨fun _ _ => rfl, List.forall_mem_cons.mpr ⟨fun _ _ => rfl, List.forall_mem_cons.mpr ⟨fun _ _ => rfl, List.forall_mem_cons.mpr ⟨fun _ _ => rfl, List.forall_mem_cons.mpr ⟨fun _ _ => rfl, List.forall_mem_cons.mpr ⟨fun _ _ => rfl, List.forall_mem_cons.mpr ⟨fun _ _ => rfl, List.forall_mem_cons.mpr ⟨fun _ _ => rfl, fun _ h => absurd h List.not_mem_nil⟩⟩⟩⟩⟩⟩⟩⟩⟩⟩⟩⟩⟩⟩⟩⟩⟩⟩⟩⟩⟩⟩⟩⟩⟩⟩⟩⟩⟩⟩⟩⟩⟩⟩⟩⟩⟩⟩⟩⟩⟩⟩⟩⟩⟩⟩⟩⟩⟩⟩
set_option maxRecDepth 20000 in
theorem rf_RM_1 : ∀ i ∈ [52, 53, 54, 55, 56, 57, 58, 59, 60, 61, 62, 63, 64, 65, 66, 67, 68, 69, 70, 71, 72, 73, 74, 75, 76, 77, 78, 79, 80, 81, 82, 83, 84, 85, 86, 87, 88, 89, 90, 91, 92, 93, 94, 95, 96, 97, 98, 99, 100, 101], ∀ (w w' : rf_w), rf_Rt w 206 i = rf_Rt w' 206 i := List.forall_mem_cons.mpr ⟨fun _ _ => rfl, List.forall_mem_cons.mpr ⟨fun _ _ => rfl, List.forall_mem_cons.mpr ⟨fun _ _ => rfl, List.forall_mem_cons.mpr ⟨fun _ _ => rfl, List.forall_mem_cons.mpr ⟨fun _ _ => rfl, List.forall_mem_cons.mpr ⟨fun _ _ => rfl, List.forall_mem_cons.mpr ⟨fun _ _ => rfl, List.forall_mem_cons.mpr ⟨fun _ _ => rfl, List.forall_mem_cons.mpr ⟨fun _ _ => rfl, List.forall_mem_cons.mpr ⟨fun _ _ => rfl, List.forall_mem_cons.mpr ⟨fun _ _ => rfl, List.forall_mem_cons.mpr ⟨fun _ _ => rfl, List.forall_mem_cons.mpr ⟨fun _ _ => rfl, List.forall_mem_cons.mpr ⟨fun _ _ => rfl, List.forall_mem_cons.mpr ⟨fun _ _ => rfl, List.forall_mem_cons.mpr ⟨fun _ _ => rfl, List.forall_mem_cons.mpr ⟨fun _ _ => rfl, List.forall_mem_cons.mpr ⟨fun _ _ => rfl, List.forall_mem_cons.mpr ⟨fun _ _ => rfl, List.forall_mem_cons.mpr ⟨fun _ _ => rfl, List.forall_mem_cons.mpr ⟨fun _ _ => rfl, List.forall_mem_cons.mpr ⟨fun _ _ => rfl, List.forall_mem_cons.mpr ⟨fun _ _ => rfl, List.forall_mem_cons.mpr ⟨fun _ _ => rfl, List.forall_mem_cons.mpr ⟨fun _ _ => rfl, List.forall_mem_cons.mpr ⟨fun _ _ => rfl, List.forall_mem_cons.mpr ⟨fun _ _ => rfl, List.forall_mem_cons.mpr ⟨fun _ _ => rfl, List.forall_mem_cons.mpr ⟨fun _ _ => rfl, List.forall_mem_cons.mpr ⟨fun _ _ => rfl, List.forall_mem_cons.mpr ⟨fun _ _ => rfl, List.forall_mem_cons.mpr ⟨fun _ _ => rfl, List.forall_mem_cons.mpr ⟨fun _ _ => rfl, List.forall_mem_cons.mpr ⟨fun _ _ => rfl, List.forall_mem_cons.mpr ⟨fun _ _ => rfl, List.forall_mem_cons.mpr ⟨fun _ _ => rfl, List.forall_mem_cons.mpr ⟨fun _ _ => rfl, List.forall_mem_cons.mpr ⟨fun _ _ => rfl, List.forall_mem_cons.mpr ⟨fun _ _ => rfl, List.forall_mem_cons.mpr ⟨fun _ _ => rfl, List.forall_mem_cons.mpr ⟨fun _ _ => rfl, List.forall_mem_cons.mpr ⟨fun _ _ => rfl, List.forall_mem_cons.mpr ⟨fun _ _ => rfl, List.forall_mem_cons.mpr ⟨fun _ _ => rfl, List.forall_mem_cons.mpr ⟨fun _ _ => rfl, List.forall_mem_cons.mpr ⟨fun _ _ => rfl, List.forall_mem_cons.mpr ⟨fun _ _ => rfl, List.forall_mem_cons.mpr ⟨fun _ _ => rfl, List.forall_mem_cons.mpr ⟨fun _ _ => rfl, List.forall_mem_cons.mpr ⟨fun _ _ => rfl, fun _ h => absurd h List.not_mem_nil⟩⟩⟩⟩⟩⟩⟩⟩⟩⟩⟩⟩⟩⟩⟩⟩⟩⟩⟩⟩⟩⟩⟩⟩⟩⟩⟩⟩⟩⟩⟩⟩⟩⟩⟩⟩⟩⟩⟩⟩⟩⟩⟩⟩⟩⟩⟩⟩⟩⟩
set_option maxRecDepth 20000 in
theorem rf_RM_2 : ∀ i ∈ [102, 103, 104, 105, 106, 107, 108, 109, 110, 111, 112, 113, 114, 115, 116, 117, 118, 119, 120, 121, 122, 123, 124, 125, 126, 127, 128, 129, 130, 131, 132, 133, 134, 135, 136, 137, 138, 139, 140, 141, 142, 143, 144, 145, 146, 147], ∀ (w w' : rf_w), rf_Rt w 206 i = rf_Rt w' 206 i := List.forall_mem_cons.mpr ⟨fun _ _ => rfl, List.forall_mem_cons.mpr ⟨fun _ _ => rfl, List.forall_mem_cons.mpr ⟨fun _ _ => rfl, List.forall_mem_cons.mpr ⟨fun _ _ => rfl, List.forall_mem_cons.mpr ⟨fun _ _ => rfl, List.forall_mem_cons.mpr ⟨fun _ _ => rfl, List.forall_mem_cons.mpr ⟨fun _ _ => rfl, List.forall_mem_cons.mpr ⟨fun _ _ => rfl, List.forall_mem_cons.mpr ⟨fun _ _ => rfl, List.forall_mem_cons.mpr ⟨fun _ _ => rfl, List.forall_mem_cons.mpr ⟨fun _ _ => rfl, List.forall_mem_cons.mpr ⟨fun _ _ => rfl, List.forall_mem_cons.mpr ⟨fun _ _ => rfl, List.forall_mem_cons.mpr ⟨fun _ _ => rfl, List.forall_mem_cons.mpr ⟨fun _ _ => rfl, List.forall_mem_cons.mpr ⟨fun _ _ => rfl, List.forall_mem_cons.mpr ⟨fun _ _ => rfl, List.forall_mem_cons.mpr ⟨fun _ _ => rfl, List.forall_mem_cons.mpr ⟨fun _ _ => rfl, List.forall_mem_cons.mpr ⟨fun _ _ => rfl, List.forall_mem_cons.mpr ⟨fun _ _ => rfl, List.forall_mem_cons.mpr ⟨fun _ _ => rfl, List.forall_mem_cons.mpr ⟨fun _ _ => rfl, List.forall_mem_cons.mpr ⟨fun _ _ => rfl, List.forall_mem_cons.mpr ⟨fun _ _ => rfl, List.forall_mem_cons.mpr ⟨fun _ _ => rfl, List.forall_mem_cons.mpr ⟨fun _ _ => rfl, List.forall_mem_cons.mpr ⟨fun _ _ => rfl, List.forall_mem_cons.mpr ⟨fun _ _ => rfl, List.forall_mem_cons.mpr ⟨fun _ _ => rfl, List.forall_mem_cons.mpr ⟨fun _ _ => rfl, List.forall_mem_cons.mpr ⟨fun _ _ => rfl, List.forall_mem_cons.mpr ⟨fun _ _ => rfl, List.forall_mem_cons.mpr ⟨fun _ _ => rfl, List.forall_mem_cons.mpr ⟨fun _ _ => rfl, List.forall_mem_cons.mpr ⟨fun _ _ => rfl, List.forall_mem_cons.mpr ⟨fun _ _ => rfl, List.forall_mem_cons.mpr ⟨fun _ _ => rfl, List.forall_mem_cons.mpr ⟨fun _ _ => rfl, List.forall_mem_cons.mpr ⟨fun _ _ => rfl, List.forall_mem_cons.mpr ⟨fun _ _ => rfl, List.forall_mem_cons.mpr ⟨fun _ _ => rfl, List.forall_mem_cons.mpr ⟨fun _ _ => rfl, List.forall_mem_cons.mpr ⟨fun _ _ => rfl, List.forall_mem_cons.mpr ⟨fun _ _ => rfl, List.forall_mem_cons.mpr ⟨fun _ _ => rfl, fun _ h => absurd h List.not_mem_nil⟩⟩⟩⟩⟩⟩⟩⟩⟩⟩⟩⟩⟩⟩⟩⟩⟩⟩⟩⟩⟩⟩⟩⟩⟩⟩⟩⟩⟩⟩⟩⟩⟩⟩⟩⟩⟩⟩⟩⟩⟩⟩⟩⟩⟩⟩
def rf_is : List Nat := [0, 1, 2, 3, 4, 5, 6, 7, 8, 9, 10, 11, 12, 13, 14, 15, 16, 17, 18, 19, 20, 21, 22, 23, 24, 25, 26, 27, 28, 30, 31, 32, 33, 34, 35, 36, 37, 38, 39, 40, 42, 43, 44, 45, 46, 47, 48, 49, 50, 51] ++ [52, 53, 54, 55, 56, 57, 58, 59, 60, 61, 62, 63, 64, 65, 66, 67, 68, 69, 70, 71, 72, 73, 74, 75, 76, 77, 78, 79, 80, 81, 82, 83, 84, 85, 86, 87, 88, 89, 90, 91, 92, 93, 94, 95, 96, 97, 98, 99, 100, 101] ++ [102, 103, 104, 105, 106, 107, 108, 109, 110, 111, 112, 113, 114, 115, 116, 117, 118, 119, 120, 121, 122, 123, 124, 125, 126, 127, 128, 129, 130, 131, 132, 133, 134, 135, 136, 137, 138, 139, 140, 141, 142, 143, 144, 145, 146, 147]
set_option maxRecDepth 20000 in
theorem rf_is_eq : ((List.range 148).filter (fun k => !(k == 29) && !(k == 41))) = rf_is := by decide +kernel
theorem rf_RM : ∀ i, i ≠ 29 → i ≠ 41 → ∀ (w w' : rf_w), rf_Rt w 206 i = rf_Rt w' 206 i := by
  intro i h2 h3 w w'
  by_cases h1 : i < 148
  · have hm : i ∈ rf_is := by
      rw [← rf_is_eq]
      exact List.mem_filter.mpr ⟨List.mem_range.mpr h1, by simp [h2, h3]⟩
    unfold rf_is at hm
    simp only [List.mem_append] at hm
    rcases hm with (h | h) | h
    · exact rf_RM_0 i h w w'
    · exact rf_RM_1 i h w w'
    · exact rf_RM_2 i h w w'
  · obtain ⟨j, rfl⟩ : ∃ j, i = j + 148 := ⟨i - 148, by omega⟩
    rfl
theorem rf_Rt_cong {w w' : rf_w} {k i : Nat} (h0 : k = 206 → i = 41 → w'.2.2 0 = w.2.2 0) (h1 : k = 206 → i = 29 → w'.2.2 1 = w.2.2 1) (h2 : k = 229 → w'.2.2 (i + 2) = w.2.2 (i + 2)) (h3 : 306 ≤ k → w'.2.1 k = w.2.1 k) : rf_Rt w' k i = rf_Rt w k i := by
  by_cases hk : 306 ≤ k
  · rw [rf_Rt_hi hk, rf_Rt_hi hk]
    unfold rf_rz
    rw [h3 hk]
  · by_cases h6 : k = 206
    · subst h6
      by_cases a : i = 41
      · subst a; exact h0 rfl rfl
      · by_cases b : i = 29
        · subst b; exact h1 rfl rfl
        · exact rf_RM i b a w' w
    · by_cases h9 : k = 229
      · subst h9; exact h2 rfl
      · exact (rf_RPs k (by omega) h6 h9).1 w' w i
def rf_w0 : rf_w := (306, fun _ => none, fun i => bif Nat.beq i 0 then some 230 else bif Nat.beq i 1 then some 225 else none)
def rf_lt306 (x : Option Nat) : Bool := match x with
  | none => true
  | some j => Nat.blt j 306
set_option maxRecDepth 100000 in
theorem rf_lt306_all : ((List.range 306).all fun k => (List.range 148).all fun i => rf_lt306 (rf_Rt rf_w0 k i)) = true := by decide +kernel
theorem rf_Rt_lt {w : rf_w} (hw : rf_wok w) {k i j : Nat} (h : rf_Rt w k i = some j) : j < w.1 := by
  have hn := hw.1.1
  by_cases hk : 306 ≤ k
  · rw [rf_Rt_hi hk] at h
    unfold rf_rz at h
    split at h
    · rename_i e
      have := hw.2.2.2 k hk e
      cases h5 : Nat.beq i 5 with
      | true => rw [h5] at h; simp only [cond_true, Option.some.injEq] at h; omega
      | false =>
        rw [h5] at h
        cases h6 : Nat.beq i 6 with
        | true => rw [h6] at h; simp only [cond_true, cond_false, Option.some.injEq] at h; omega
        | false => rw [h6] at h; cases h
    · cases h
  · have key : ∀ i, rf_Rt rf_w0 k i = some j → i < 148 → j < 306 := by
      intro i h hi
      have h1 := List.all_eq_true.mp rf_lt306_all k (List.mem_range.mpr (by omega))
      have h2 := List.all_eq_true.mp h1 i (List.mem_range.mpr hi)
      rw [h] at h2
      exact Nat.le_of_ble_eq_true h2
    by_cases h6 : k = 206
    · subst h6
      by_cases a : i = 41
      · subst a; exact hw.2.2.1 0 j h
      · by_cases b : i = 29
        · subst b; exact hw.2.2.1 1 j h
        · by_cases hi : i < 148
          · rw [rf_RM i b a w rf_w0] at h
            have := key i h hi
            omega
          · obtain ⟨z, rfl⟩ : ∃ z, i = z + 148 := ⟨i - 148, by omega⟩
            cases h
    · by_cases h9 : k = 229
      · subst h9; exact hw.2.2.1 (i + 2) j h
      · have hP := rf_RPs k (by omega) h6 h9
        by_cases hi : i < 148
        · rw [hP.1 w rf_w0] at h
          have := key i h hi
          omega
        · obtain ⟨z, rfl⟩ : ∃ z, i = z + 148 := ⟨i - 148, by omega⟩
          rw [hP.2 w z] at h
          cases h
theorem rf_Rt_none {w : rf_w} (hw : rf_wok w) {k i : Nat} (h : w.1 ≤ k) : rf_Rt w k i = none := by
  have hn := hw.1.1
  rw [rf_Rt_hi (by omega)]
  unfold rf_rz
  have e : w.2.1 k = none := by
    cases h2 : w.2.1 k with
    | none => rfl
    | some c => have := (hw.2.1 k (by omega)).mp (by rw [h2]; rfl); omega
  rw [e]
theorem rf_F_w {w : rf_w} (hw : rf_wok w) (m : rf_m) : rf_F w.1 (rf_MM w (rf_z m w.1)) := by
  refine ⟨fun k i j h => rf_Rt_lt hw h, fun k i h => ⟨?_, ?_, rf_Rt_none hw h⟩⟩
  · show (if w.1 ≤ k then (0 : Int32) else _) = 0
    rw [if_pos h]
  · show (if w.1 ≤ k then (0 : Int64) else _) = 0
    rw [if_pos h]
/-- one cell more -/
def rf_w1 (w : rf_w) (c : rf_C) : rf_w := (w.1 + 1, fun k => if k = w.1 then some c else w.2.1 k, w.2.2)
theorem rf_xt_w {w : rf_w} (h : 306 ≤ w.1) (c : rf_C) : rf_xt (rf_sh w) (rf_sh (rf_w1 w c)) c := by
  refine ⟨rfl, fun k hk => ?_, ?_⟩
  · have hk : k ≠ w.1 := hk
    show (bif Nat.ble k 305 then some (rf_s k) else (if k = w.1 then some c else w.2.1 k) : Option rf_C) = (bif Nat.ble k 305 then some (rf_s k) else w.2.1 k)
    rw [if_neg hk]
  · show (bif Nat.ble w.1 305 then some (rf_s w.1) else (if w.1 = w.1 then some c else w.2.1 w.1) : Option rf_C) = some c
    have h2 : Nat.ble w.1 305 = false := by
      cases hb : Nat.ble w.1 305 with
      | false => rfl
      | true => have := Nat.le_of_ble_eq_true hb; omega
    rw [h2, if_pos rfl]
    rfl
theorem rf_nr_ref {a n : Nat} (h : a < n) : rf_nr n (.ref a) = true := by
  show (!(Nat.beq a n)) = true
  have : Nat.beq a n = false := by
    cases hb : Nat.beq a n with
    | false => rfl
    | true => have := Nat.eq_of_beq_eq_true hb; omega
  rw [this]
  rfl
theorem rf_br_ref {a n : Nat} (h : a < n) : rf_br n (.ref a) = true := by
  show (Nat.ble (a + 1) n || Nat.ble 1000000 a) = true
  rw [Nat.ble_eq_true_of_le h]
  rfl
theorem rf_ctx_wf {o nL d : Nat} {cc : ByteArray} {sh : rf_Sh} {K : rf_K} (C : rf_Ctx o cc nL d sh K) : rf_Wf sh := by
  obtain ⟨p, l, e, R, s, m, args, below, meth, c, D, ad, cad, A, Q⟩ := K
  exact C.2.2.2.2.2.2.2.2.2.2.2.2
/-- Rule's constructor, anywhere -/
theorem ci_X12_gen {sh sh1 sh2 : rf_Sh} {M : rf_M} {a : Nat} (hF : rf_F sh.1 M) (hn : sh.1 + 1 < 1000000) (ha : rf_at sh a = some (.inr 12)) (hal : a < sh.1) (h1 : rf_xt sh sh1 (.inl (.int, 300))) (h2 : rf_xt sh1 sh2 (.inl (.int, 300))) : rf_GCon j_X12_init 1 2 600 sh [.ref a] M none sh2 (rf_uR (rf_uR M a 5 (some sh.1)) a 6 (some sh1.1)) := by
  have e1 : sh1.1 = sh.1 + 1 := h1.1
  have e2 : sh2.1 = sh1.1 + 1 := h2.1
  have ha1 : rf_at sh1 a = some (.inr 12) := (h1.2.1 a (by omega)).trans ha
  have ha2 : rf_at sh2 a = some (.inr 12) := (h2.2.1 a (by omega)).trans ha1
  refine rf_gcon j_X12_init 1 2 600 ⟨by decide +kernel, rfl, Or.inr rfl, Nat.le_of_ble_eq_true rfl⟩ (fun K B hE => ?_)
  show rf_V 1 sh K 0 0 0 ([(0, .ref a)], [], M)
  refine rf_seg B.1 [(.aload 0, 1)] (pc' := 1) (S' := ([(0, .ref a)], [.ref a], M)) (by decide +kernel) rfl trivial ?_
  refine rf_oinit (idx := 3) B.1 (by decide) (rf_mem 13 (by decide +kernel)) (rf_mem 0 (by decide +kernel)) (rf_mem 0 (by decide +kernel)) (Nat.le_of_ble_eq_true rfl) (by decide +kernel) ?_
  refine rf_seg B.1 [(.aload 0, 1), (.iconst 300, 3)] (pc' := 8) (S' := ([(0, .ref a)], [.int 300, .ref a], M)) (by decide +kernel) rfl trivial ?_
  refine rf_gbnewa B hF (by omega) .int 300 h1 rfl .int rfl (by decide) (by decide) (by decide +kernel) (by decide) (by simp [rf_nr_ref hal]) (by simp [rf_nr_ref hal]) (rf_mem 2 (by decide +kernel)) (by decide) (by decide) (by decide +kernel) (fun K B hF => ?_)
  show rf_V 1 sh1 K 1 300 10 ([(0, .ref a)], [.ref sh.1, .ref a], M)
  refine rf_gputf (idx := 9) B ⟨by decide, by decide⟩ 12 5 ha1 rfl rfl rfl (by decide +kernel) (by decide +kernel) ?_
  have hF := rf_F_uR (k := a) (i := 5) (j := sh.1) hF (by omega) (by omega)
  refine rf_seg B.1 [(.aload 0, 1), (.iconst 300, 3)] (pc' := 17) (S' := ([(0, .ref a)], [.int 300, .ref a], rf_uR M a 5 (some sh.1))) (by decide +kernel) rfl trivial ?_
  refine rf_gbnewa B hF (by omega) .int 300 h2 rfl .int rfl (by decide) (by decide) (by decide +kernel) (by decide) (by simp [rf_nr_ref (show a < sh1.1 by omega)]) (by simp [rf_nr_ref (show a < sh1.1 by omega)]) (rf_mem 2 (by decide +kernel)) (by decide) (by decide) (by decide +kernel) (fun K B hF => ?_)
  show rf_V 1 sh2 K 2 600 19 ([(0, .ref a)], [.ref sh1.1, .ref a], rf_uR M a 5 (some sh.1))
  refine rf_gputf (idx := 15) B ⟨by decide, by decide⟩ 12 6 ha2 rfl rfl rfl (by decide +kernel) (by decide +kernel) ?_
  exact rf_vretG B (by decide) (by decide) hE (by decide +kernel)
def rf_w3 (w : rf_w) : rf_w := rf_w1 (rf_w1 (rf_w1 w (.inr 12)) (.inl (.int, 300))) (.inl (.int, 300))
/-- the fresh rule goes into the row, at r; a new fresh one -/
def rf_wrule (w : rf_w) (r : Nat) : rf_w := ((rf_w3 w).1, (rf_w3 w).2.1, fun i => if i = 0 then some w.1 else if i = r + 2 then w.2.2 0 else w.2.2 i)
theorem rf_w3_at (w : rf_w) (k : Nat) : (rf_w3 w).2.1 k = if k = w.1 + 2 then some (.inl (.int, 300)) else if k = w.1 + 1 then some (.inl (.int, 300)) else if k = w.1 then some (.inr 12) else w.2.1 k := rfl
theorem rf_wrule_ok {w : rf_w} (hw : rf_wok w) (h : w.1 + 4 ≤ 1000000) (r : Nat) : rf_wok (rf_wrule w r) := by
  have hn := hw.1.1
  refine ⟨⟨show 306 ≤ w.1 + 3 by omega, show w.1 + 3 < 1000000 by omega⟩, ?_, ?_, ?_⟩
  · intro k hk
    show ((rf_w3 w).2.1 k).isSome = true ↔ k < w.1 + 3
    rw [rf_w3_at]
    have h3 := hw.2.1 k hk
    split
    · exact ⟨fun _ => by omega, fun _ => rfl⟩
    · split
      · exact ⟨fun _ => by omega, fun _ => rfl⟩
      · split
        · exact ⟨fun _ => by omega, fun _ => rfl⟩
        · rw [h3]; omega
  · intro i j h
    show j < w.1 + 3
    have h : (if i = 0 then some w.1 else if i = r + 2 then w.2.2 0 else w.2.2 i) = some j := h
    split at h
    · obtain rfl := Option.some.inj h; omega
    · split at h
      · have := hw.2.2.1 0 j h; omega
      · have := hw.2.2.1 i j h; omega
  · intro k hk h
    show k + 2 < w.1 + 3
    have h : (rf_w3 w).2.1 k = some (.inr 12) := h
    rw [rf_w3_at] at h
    split at h
    · cases h
    · split at h
      · cases h
      · split at h
        · omega
        · have := hw.2.2.2 k hk h; omega
/-- what stands then in the memory's references -/
theorem rf_wrule_Rt {w : rf_w} (hw : rf_wok w) {r f : Nat} (hf : w.2.2 0 = some f) (hr : r < 24) (m : rf_m) : rf_Ag (w.1 + 3) (rf_uR (rf_uR (rf_uR (rf_uR (rf_MM w m) 229 r (some f)) w.1 5 (some (w.1 + 1))) w.1 6 (some (w.1 + 2))) 206 41 (some w.1)) (rf_MM (rf_wrule w r) m) := by
  have hn := hw.1.1
  intro k hk i
  refine ⟨rfl, rfl, ?_⟩
  show rf_Rt (rf_wrule w r) k i = (if k = 206 ∧ i = 41 then some w.1 else if k = w.1 ∧ i = 6 then some (w.1 + 2) else if k = w.1 ∧ i = 5 then some (w.1 + 1) else if k = 229 ∧ i = r then some f else rf_Rt w k i)
  by_cases c1 : k = 206 ∧ i = 41
  · obtain ⟨rfl, rfl⟩ := c1
    rw [if_pos ⟨rfl, rfl⟩]
    rfl
  · rw [if_neg c1]
    by_cases c2 : k = w.1
    · subst c2
      rw [rf_Rt_hi hn, rf_Rt_none hw (Nat.le_refl _)]
      have e : (rf_wrule w r).2.1 w.1 = some (.inr 12) := by
        show (rf_w3 w).2.1 w.1 = _
        rw [rf_w3_at, if_neg (by omega), if_neg (by omega), if_pos rfl]
      unfold rf_rz
      rw [e]
      by_cases i5 : i = 5
      · subst i5; rw [if_neg (by omega), if_pos ⟨rfl, rfl⟩]; rfl
      · by_cases i6 : i = 6
        · subst i6; rw [if_pos ⟨rfl, rfl⟩]; rfl
        · rw [if_neg (by omega), if_neg (by omega), if_neg (by omega)]
          have b5 : Nat.beq i 5 = false := by
            cases hb : Nat.beq i 5 with
            | false => rfl
            | true => exact absurd (Nat.eq_of_beq_eq_true hb) i5
          have b6 : Nat.beq i 6 = false := by
            cases hb : Nat.beq i 6 with
            | false => rfl
            | true => exact absurd (Nat.eq_of_beq_eq_true hb) i6
          simp only [b5, b6, cond_false]
    · rw [if_neg (fun q => c2 q.1), if_neg (fun q => c2 q.1)]
      by_cases c3 : k = 229 ∧ i = r
      · obtain ⟨rfl, rfl⟩ := c3
        rw [if_pos ⟨rfl, rfl⟩]
        show (if i + 2 = 0 then some w.1 else if i + 2 = i + 2 then w.2.2 0 else w.2.2 (i + 2)) = some f
        rw [if_neg (by omega), if_pos rfl, hf]
      · rw [if_neg c3]
        by_cases c4 : w.1 ≤ k
        · rw [rf_Rt_none hw c4, rf_Rt_hi (by omega)]
          unfold rf_rz
          have e : (rf_wrule w r).2.1 k = some (.inl (.int, 300)) := by
            show (rf_w3 w).2.1 k = _
            rw [rf_w3_at]
            by_cases k2 : k = w.1 + 2
            · rw [if_pos k2]
            · rw [if_neg k2, if_pos (by omega)]
          rw [e]
        · refine rf_Rt_cong (fun a b => absurd ⟨a, b⟩ c1) (fun _ _ => ?_) (fun a => ?_) (fun h => ?_)
          · show (if (1 : Nat) = 0 then some w.1 else if 1 = r + 2 then w.2.2 0 else w.2.2 1) = w.2.2 1
            rw [if_neg (by omega), if_neg (by omega)]
          · show (if i + 2 = 0 then some w.1 else if i + 2 = r + 2 then w.2.2 0 else w.2.2 (i + 2)) = w.2.2 (i + 2)
            rw [if_neg (by omega), if_neg (fun q => c3 ⟨a, by omega⟩)]
          · show (rf_w3 w).2.1 k = w.2.1 k
            rw [rf_w3_at, if_neg (by omega), if_neg (by omega), if_neg (by omega)]
-- rule
def g_X14_rule_145 (w : rf_w) (m : rf_m) : Option (Int32 × rf_w × rf_m) := rf_b (g_X14_done w (rf_i m 206 39 ((m.1 206 39) + 1)) (((rf_i m 206 39 ((m.1 206 39) + 1)).1 206 39) - 1)) fun y0 m0 => some (y0, w, m0)
theorem s_X14_rule_145 {w : rf_w} {K : rf_K} {r : Int32 × rf_w × rf_m} {cells slots mc ms n0 : Nat} {K0 : rf_K} (B : rf_GB 14 cX14_rule 5 211 mc ms n0 K0 (rf_sh w) K ∧ rf_wok w ∧ cells + 0 ≤ mc ∧ slots + 0 ≤ ms) (hE : rf_EndG (some .int) K0 n0 (rf_sh r.2.1) (some (.int r.1)) (rf_MM r.2.1 r.2.2) mc ms) (m : rf_m) (hg : g_X14_rule_145 w m = some r) : rf_V 5 (rf_sh w) K cells slots 145 ([(0, .ref 206)], [], rf_MM w m) := by
  unfold g_X14_rule_145 at hg
  refine rf_seg B.1.1 [(.aload 0, 1), (.dup, 1), (.invokeinterface 14 39, 3), (.iconst 1, 1), (.iadd, 1), (.multianewarray 14 39, 3), (.aload 0, 1), (.aload 0, 1), (.invokeinterface 14 39, 3), (.iconst 1, 1), (.isub, 1)] (pc' := 162) (S' := ([(0, .ref 206)], [.int (((rf_i m 206 39 ((m.1 206 39) + 1)).1 206 39) - 1), .ref 206], rf_MM w (rf_i m 206 39 ((m.1 206 39) + 1)))) (by decide +kernel) rfl trivial ?_
  obtain ⟨y0, m0, hc0, hg⟩ := rf_b_some hg
  refine rf_callv B.1.1 (rf_gfit B.1 (Nat.le_trans (Nat.le_add_right _ _) B.2.2.1) (Nat.le_trans (Nat.le_add_right _ _) B.2.2.2)) j_X14_done (ci := 14) (As := [.int (((rf_i m 206 39 ((m.1 206 39) + 1)).1 206 39) - 1)]) (rest := []) mw_X14_done (c_X14_done hc0) (by decide) rfl (by decide) lk_14_357 rfl rfl (Nat.le_of_ble_eq_true rfl) (by decide +kernel) ?_
  show rf_V 5 (rf_sh w) K cells slots 165 ([(0, .ref 206)], [.int y0], rf_MM w m0)
  obtain rfl := Option.some.inj hg
  exact rf_iretG B.1 (Nat.le_trans (Nat.le_add_right _ _) B.2.2.1) (Nat.le_trans (Nat.le_add_right _ _) B.2.2.2) hE (by decide +kernel)
def h_X14_rule_121 (w : rf_w) (m : rf_m) : Option (Int32 × rf_w × rf_m) := rf_o (w.2.2 0) fun f => rf_g (rf_isO w f 12) (rf_g (rf_in (m.1 206 39) 24) (rf_g (Nat.ble (w.1 + 4) 1000000) (g_X14_rule_145 (rf_wrule w (Int32.toNatClampNeg (m.1 206 39))) (rf_z m w.1))))
theorem t_X14_rule_121 {w : rf_w} {K : rf_K} {r : Int32 × rf_w × rf_m} {cells slots mc ms n0 : Nat} {K0 : rf_K} (B : rf_GB 14 cX14_rule 5 211 mc ms n0 K0 (rf_sh w) K ∧ rf_wok w ∧ cells + 3 ≤ mc ∧ slots + 607 ≤ ms) (hE : rf_EndG (some .int) K0 n0 (rf_sh r.2.1) (some (.int r.1)) (rf_MM r.2.1 r.2.2) mc ms) (m : rf_m) (hg : h_X14_rule_121 w m = some r) : rf_V 5 (rf_sh w) K cells slots 121 ([(0, .ref 206)], [], rf_MM w m) := by
  unfold h_X14_rule_121 at hg
  obtain ⟨f, hf, hg⟩ := rf_o_some hg
  obtain ⟨q1, hg⟩ := rf_g_some hg
  obtain ⟨q2, hg⟩ := rf_g_some hg
  obtain ⟨q3, hg⟩ := rf_g_some hg
  obtain ⟨B, hw, hcl, hsl⟩ := B
  have hn := hw.1.1
  have hn4 : w.1 + 4 ≤ 1000000 := Nat.le_of_ble_eq_true q3
  have hfl : f < w.1 := hw.2.2.1 0 f hf
  have hr24 : (Int32.toNatClampNeg (m.1 206 39)) < 24 := Nat.not_le.mp (fun q => rf_in_of q2 (Or.inr q))
  refine rf_seg B.1 [(.aload 0, 1), (.invokeinterface 14 40, 3), (.aload 0, 1), (.invokeinterface 14 39, 3), (.aload 0, 1)] (pc' := 130) (S' := ([(0, .ref 206)], [.ref 206, .int (m.1 206 39), .ref 229], rf_MM w m)) (by decide +kernel) rfl trivial ?_
  refine rf_d_getr B.1 14 41 (q := f) rfl rfl hf (by decide +kernel) ?_
  show rf_V 5 (rf_sh w) K cells slots 133 ([(0, .ref 206)], [.ref f, .int (m.1 206 39), .ref 229], rf_MM w m)
  refine rf_gaast B.1 12 (a := 229) (N := 24) rfl (rf_isO_of q1) (by decide) (rf_in_of q2) (by decide +kernel) ?_
  refine rf_seg B.1 [(.aload 0, 1)] (pc' := 135) (S' := ([(0, .ref 206)], [.ref 206], rf_uR (rf_MM w m) 229 (Int32.toNatClampNeg (m.1 206 39)) (some f))) (by decide +kernel) rfl trivial ?_
  refine rf_V_ag (M' := rf_uR (rf_MM w (rf_z m w.1)) 229 (Int32.toNatClampNeg (m.1 206 39)) (some f)) ?_ ?_
  · intro k hk i
    have hk : k < w.1 := hk
    refine ⟨?_, ?_, rfl⟩
    · show (if w.1 ≤ k then (0 : Int32) else m.1 k i) = m.1 k i
      rw [if_neg (by omega)]
    · show (if w.1 ≤ k then (0 : Int64) else m.2 k i) = m.2 k i
      rw [if_neg (by omega)]
  have hF : rf_F (rf_sh w).1 (rf_uR (rf_MM w (rf_z m w.1)) 229 (Int32.toNatClampNeg (m.1 206 39)) (some f)) := rf_F_uR (rf_F_w hw m) (show 229 < w.1 by omega) hfl
  have hF := hF
  refine rf_gbnew (idx := 82) B hF hw.1.2 12 (rf_xt_w hn (.inr 12)) rfl (by decide) (by decide +kernel) (by show ([(0, Value.ref 206)] : rf_L).all (fun x => rf_nr w.1 x.2) = true; simp [rf_nr_ref (show 206 < w.1 by omega)]) (by show ([Value.ref 206]).all (rf_nr w.1) = true; simp [rf_nr_ref (show 206 < w.1 by omega)]) (rf_mem 9 (by decide +kernel)) (rf_mem 9 (by decide +kernel)) (rf_mem 9 (by decide +kernel)) (by omega) (by show slots + 7 ≤ ms; omega) (by decide +kernel) (fun K B hF => ?_)
  show rf_V 5 (rf_sh (rf_w1 w (.inr 12))) K (cells + 1) (slots + 7) 138 ([(0, .ref 206)], [.ref w.1, .ref 206], rf_uR (rf_MM w (rf_z m w.1)) 229 (Int32.toNatClampNeg (m.1 206 39)) (some f))
  refine rf_seg B.1 [(.dup, 1)] (pc' := 139) (S' := ([(0, .ref 206)], [.ref w.1, .ref w.1, .ref 206], rf_uR (rf_MM w (rf_z m w.1)) 229 (Int32.toNatClampNeg (m.1 206 39)) (some f))) (by decide +kernel) rfl trivial ?_
  have hF : rf_F (w.1 + 1) (rf_uR (rf_MM w (rf_z m w.1)) 229 (Int32.toNatClampNeg (m.1 206 39)) (some f)) := hF
  refine rf_gcallN (idx := 88) (sh' := rf_sh (rf_w3 w)) B j_X12_init (ho := 14) (As := []) (rest := [.ref w.1, .ref 206]) mwi_X12_init (ci_X12_gen (sh1 := rf_sh (rf_w1 (rf_w1 w (.inr 12)) (.inl (.int, 300)))) hF (show w.1 + 1 + 1 < 1000000 by omega) (rf_xt_w hn (.inr 12)).2.2 (show w.1 < w.1 + 1 by omega) (rf_xt_w (w := rf_w1 w (.inr 12)) (show 306 ≤ w.1 + 1 by omega) _) (rf_xt_w (w := rf_w1 (rf_w1 w (.inr 12)) (.inl (.int, 300))) (show 306 ≤ w.1 + 1 + 1 by omega) _)) (by decide) (show w.1 + 1 ≤ w.1 + 1 + 1 + 1 by omega) (by decide +kernel) rfl rfl (Nat.le_of_ble_eq_true rfl) (by show ([(0, Value.ref 206)] : rf_L).all (fun x => rf_br (w.1 + 1) x.2) = true; simp [rf_br_ref (show 206 < w.1 + 1 by omega)]) (by show ([Value.ref w.1, Value.ref 206]).all (rf_br (w.1 + 1)) = true; simp [rf_br_ref (show 206 < w.1 + 1 by omega), rf_br_ref (show w.1 < w.1 + 1 by omega)]) (by omega) (by omega) (by decide +kernel) (fun K B => ?_)
  show rf_V 5 (rf_sh (rf_w3 w)) K (cells + 1 + 2) (slots + 7 + 600) 142 ([(0, .ref 206)], [.ref w.1, .ref 206], rf_uR (rf_uR (rf_uR (rf_MM w (rf_z m w.1)) 229 (Int32.toNatClampNeg (m.1 206 39)) (some f)) w.1 5 (some (w.1 + 1))) w.1 6 (some (w.1 + 2)))
  refine rf_gputn (idx := 89) B.1 14 41 rfl rfl rfl (by decide +kernel) (by decide +kernel) ?_
  refine rf_V_ag (sh := rf_sh (rf_wrule w (Int32.toNatClampNeg (m.1 206 39)))) (M' := rf_MM (rf_wrule w (Int32.toNatClampNeg (m.1 206 39))) (rf_z m w.1)) (rf_wrule_Rt hw hf hr24 (rf_z m w.1)) ?_
  exact s_X14_rule_145 (w := rf_wrule w (Int32.toNatClampNeg (m.1 206 39))) ⟨B, rf_wrule_ok hw hn4 _, by omega, by omega⟩ hE _ hg
def g_X14_rule_90 (w : rf_w) (a2 : Int32) (a3 : Int32) (m : rf_m) : Option (Int32 × rf_w × rf_m) := (if (m.1 206 39) = 24 then rf_b (g_X14_refused w m 3) fun y12 m12 => some (y12, w, m12) else rf_o (w.2.2 0) fun k0 => rf_g (rf_isO w k0 12) (rf_g (rf_isR w k0 5 (k0 + 1)) (rf_g (rf_isA w (k0 + 1) .int 300) (rf_g (rf_isR w k0 6 (k0 + 2)) (rf_g (rf_isA w (k0 + 2) .int 300) (rf_o (w.2.2 0) fun k6 => rf_g (rf_isO w k6 12) (rf_g (rf_isR w k6 5 (k6 + 1)) (rf_g (rf_isA w (k6 + 1) .int 300) (rf_g (rf_isR w k6 6 (k6 + 2)) (rf_g (rf_isA w (k6 + 2) .int 300) (h_X14_rule_121 w (rf_i (rf_i m k0 1 a2) k6 2 a3))))))))))))
theorem s_X14_rule_90 {w : rf_w} {K : rf_K} {r : Int32 × rf_w × rf_m} {cells slots mc ms n0 : Nat} {K0 : rf_K} (B : rf_GB 14 cX14_rule 5 211 mc ms n0 K0 (rf_sh w) K ∧ rf_wok w ∧ cells + 3 ≤ mc ∧ slots + 607 ≤ ms) (hE : rf_EndG (some .int) K0 n0 (rf_sh r.2.1) (some (.int r.1)) (rf_MM r.2.1 r.2.2) mc ms) (a2 : Int32) (a3 : Int32) (m : rf_m) (hg : g_X14_rule_90 w a2 a3 m = some r) : rf_V 5 (rf_sh w) K cells slots 90 ([(0, .ref 206), (2, .int a2), (3, .int a3)], [], rf_MM w m) := by
  unfold g_X14_rule_90 at hg
  refine rf_seg B.1.1 [(.aload 0, 1), (.invokeinterface 14 39, 3), (.iconst 24, 2)] (pc' := 96) (S' := ([(0, .ref 206), (2, .int a2), (3, .int a3)], [.int 24, .int (m.1 206 39)], rf_MM w m)) (by decide +kernel) rfl trivial ?_
  refine rf_icmp_ne B.1.1 9 105 (by decide +kernel) (fun hc => ?_) (fun hc => ?_)
  · replace hg := (if_neg hc).symm.trans hg
    refine rf_seg B.1.1 [(.aload 0, 1)] (pc' := 106) (S' := ([(0, .ref 206), (2, .int a2), (3, .int a3)], [.ref 206], rf_MM w m)) (by decide +kernel) rfl trivial ?_
    obtain ⟨k0, hk0, hg⟩ := rf_o_some hg
    refine rf_d_getr B.1.1 14 41 (q := k0) rfl rfl hk0 (by decide +kernel) ?_
    obtain ⟨q1, hg⟩ := rf_g_some hg
    obtain ⟨q2, hg⟩ := rf_g_some hg
    obtain ⟨q3, hg⟩ := rf_g_some hg
    obtain ⟨q4, hg⟩ := rf_g_some hg
    obtain ⟨q5, hg⟩ := rf_g_some hg
    show rf_V 5 (rf_sh w) K cells slots 109 ([(0, .ref 206), (2, .int a2), (3, .int a3)], [.ref k0], rf_MM w m)
    refine rf_seg B.1.1 [(.iload 2, 1)] (pc' := 110) (S' := ([(0, .ref 206), (2, .int a2), (3, .int a3)], [.int a2, .ref k0], rf_MM w m)) (by decide +kernel) rfl trivial ?_
    refine rf_d_put B.1.1 12 1 (rf_isO_of q1) rfl (by decide +kernel) ?_
    show rf_V 5 (rf_sh w) K cells slots 113 ([(0, .ref 206), (2, .int a2), (3, .int a3)], [], rf_MM w (rf_i m k0 1 a2))
    refine rf_seg B.1.1 [(.aload 0, 1)] (pc' := 114) (S' := ([(0, .ref 206), (2, .int a2), (3, .int a3)], [.ref 206], rf_MM w (rf_i m k0 1 a2))) (by decide +kernel) rfl trivial ?_
    obtain ⟨k6, hk6, hg⟩ := rf_o_some hg
    refine rf_d_getr B.1.1 14 41 (q := k6) rfl rfl hk6 (by decide +kernel) ?_
    obtain ⟨q7, hg⟩ := rf_g_some hg
    obtain ⟨q8, hg⟩ := rf_g_some hg
    obtain ⟨q9, hg⟩ := rf_g_some hg
    obtain ⟨q10, hg⟩ := rf_g_some hg
    obtain ⟨q11, hg⟩ := rf_g_some hg
    show rf_V 5 (rf_sh w) K cells slots 117 ([(0, .ref 206), (2, .int a2), (3, .int a3)], [.ref k6], rf_MM w (rf_i m k0 1 a2))
    refine rf_seg B.1.1 [(.iload 3, 1)] (pc' := 118) (S' := ([(0, .ref 206), (2, .int a2), (3, .int a3)], [.int a3, .ref k6], rf_MM w (rf_i m k0 1 a2))) (by decide +kernel) rfl trivial ?_
    refine rf_d_put B.1.1 12 2 (rf_isO_of q7) rfl (by decide +kernel) ?_
    show rf_V 5 (rf_sh w) K cells slots 121 ([(0, .ref 206), (2, .int a2), (3, .int a3)], [], rf_MM w (rf_i (rf_i m k0 1 a2) k6 2 a3))
    refine rf_few [0] rfl ?_
    exact t_X14_rule_121 B hE (rf_i (rf_i m k0 1 a2) k6 2 a3) hg
  · replace hg := (if_pos hc).symm.trans hg
    refine rf_seg B.1.1 [(.aload 0, 1), (.iconst 3, 1)] (pc' := 101) (S' := ([(0, .ref 206), (2, .int a2), (3, .int a3)], [.int 3, .ref 206], rf_MM w m)) (by decide +kernel) rfl trivial ?_
    obtain ⟨y12, m12, hc12, hg⟩ := rf_b_some hg
    refine rf_callv B.1.1 (rf_gfit B.1 (Nat.le_trans (Nat.le_add_right _ _) B.2.2.1) (Nat.le_trans (Nat.le_add_right _ _) B.2.2.2)) j_X14_refused (ci := 14) (As := [.int 3]) (rest := []) mw_X14_refused (c_X14_refused hc12) (by decide) rfl (by decide) lk_14_353 rfl rfl (Nat.le_of_ble_eq_true rfl) (by decide +kernel) ?_
    show rf_V 5 (rf_sh w) K cells slots 104 ([(0, .ref 206), (2, .int a2), (3, .int a3)], [.int y12], rf_MM w m12)
    obtain rfl := Option.some.inj hg
    exact rf_iretG B.1 (Nat.le_trans (Nat.le_add_right _ _) B.2.2.1) (Nat.le_trans (Nat.le_add_right _ _) B.2.2.2) hE (by decide +kernel)
def g_X14_rule_63 (w : rf_w) (m : rf_m) : Option (Int32 × rf_w × rf_m) := some ((-1), w, rf_i (rf_i (rf_i m 206 3 (m.1 233 6)) 206 1 4) 206 2 ((rf_i (rf_i m 206 3 (m.1 233 6)) 206 1 4).1 233 7))
theorem s_X14_rule_63 {w : rf_w} {K : rf_K} {r : Int32 × rf_w × rf_m} {cells slots mc ms n0 : Nat} {K0 : rf_K} (B : rf_GB 14 cX14_rule 5 211 mc ms n0 K0 (rf_sh w) K ∧ rf_wok w ∧ cells + 3 ≤ mc ∧ slots + 607 ≤ ms) (hE : rf_EndG (some .int) K0 n0 (rf_sh r.2.1) (some (.int r.1)) (rf_MM r.2.1 r.2.2) mc ms) (m : rf_m) (hg : g_X14_rule_63 w m = some r) : rf_V 5 (rf_sh w) K cells slots 63 ([(0, .ref 206)], [.ref 233], rf_MM w m) := by
  unfold g_X14_rule_63 at hg
  refine rf_seg B.1.1 [(.astore 4, 2), (.aload 0, 1), (.aload 4, 2), (.invokeinterface 13 6, 3), (.multianewarray 14 3, 3), (.aload 0, 1), (.iconst 4, 1), (.multianewarray 14 1, 3), (.aload 0, 1), (.aload 4, 2), (.invokeinterface 13 7, 3), (.multianewarray 14 2, 3), (.iconst (-1), 1)] (pc' := 89) (S' := ([(4, .ref 233), (0, .ref 206)], [.int ((-1))], rf_MM w (rf_i (rf_i (rf_i m 206 3 (m.1 233 6)) 206 1 4) 206 2 ((rf_i (rf_i m 206 3 (m.1 233 6)) 206 1 4).1 233 7)))) (by decide +kernel) rfl trivial ?_
  obtain rfl := Option.some.inj hg
  exact rf_iretG B.1 (Nat.le_trans (Nat.le_add_right _ _) B.2.2.1) (Nat.le_trans (Nat.le_add_right _ _) B.2.2.2) hE (by decide +kernel)
def h_X14_rule_56 (w : rf_w) (a2 a3 : Int32) (m : rf_m) : Option (Int32 × rf_w × rf_m) := match g_X14_reads w m with
  | none => none
  | some (.inl m') => g_X14_rule_90 w a2 a3 m'
  | some (.inr m') => g_X14_rule_63 w m'
theorem t_X14_rule_56 {w : rf_w} {K : rf_K} {r : Int32 × rf_w × rf_m} {cells slots mc ms n0 : Nat} {K0 : rf_K} (B : rf_GB 14 cX14_rule 5 211 mc ms n0 K0 (rf_sh w) K ∧ rf_wok w ∧ cells + 3 ≤ mc ∧ slots + 607 ≤ ms) (hE : rf_EndG (some .int) K0 n0 (rf_sh r.2.1) (some (.int r.1)) (rf_MM r.2.1 r.2.2) mc ms) (hT : rf_Tab K [(56, 60, 63, 93)]) (a2 a3 : Int32) (m : rf_m) (hg : h_X14_rule_56 w a2 a3 m = some r) : rf_V 5 (rf_sh w) K cells slots 56 ([(0, .ref 206), (2, .int a2), (3, .int a3)], [], rf_MM w m) := by
  unfold h_X14_rule_56 at hg
  refine rf_seg B.1.1 [(.aload 0, 1)] (pc' := 57) (S' := ([(0, .ref 206), (2, .int a2), (3, .int a3)], [.ref 206], rf_MM w m)) (by decide +kernel) rfl trivial ?_
  cases hr : g_X14_reads w m with
  | none => rw [hr] at hg; cases hg
  | some q =>
    rw [hr] at hg
    have hM := c_X14_reads hr
    cases q with
    | inl m' =>
      refine rf_callvXH (idx := 626) B.1.1 j_X14_reads (ci := 14) (As := []) (rest := []) (r := .inl (none, rf_MM w m')) (hpc := 63) (ct := 93) hT mw_X14_reads hM (by decide) rfl (by decide) (rf_mem 47 (by decide +kernel)) rfl rfl (Nat.le_of_ble_eq_true rfl) (by decide +kernel) ⟨by decide, by decide, by decide, (rf_mem 9 (by decide +kernel))⟩ (rf_gfit B.1 (Nat.le_trans (Nat.le_add_right _ _) B.2.2.1) (Nat.le_trans (Nat.le_add_right _ _) B.2.2.2)) ?_
      show rf_V 5 (rf_sh w) K cells slots 60 ([(0, .ref 206), (2, .int a2), (3, .int a3)], [], rf_MM w m')
      refine rf_goto B.1.1 30 90 (by decide +kernel) ?_
      exact s_X14_rule_90 B hE a2 a3 m' hg
    | inr m' =>
      refine rf_callvXH (idx := 626) B.1.1 j_X14_reads (ci := 14) (As := []) (rest := []) (r := .inr (233, rf_MM w m')) (hpc := 63) (ct := 93) hT mw_X14_reads hM (by decide) rfl (by decide) (rf_mem 47 (by decide +kernel)) rfl rfl (Nat.le_of_ble_eq_true rfl) (by decide +kernel) ⟨by decide, by decide, by decide, (rf_mem 9 (by decide +kernel))⟩ (rf_gfit B.1 (Nat.le_trans (Nat.le_add_right _ _) B.2.2.1) (Nat.le_trans (Nat.le_add_right _ _) B.2.2.2)) ⟨rfl, ?_⟩
      refine rf_few [0] rfl ?_
      exact s_X14_rule_63 B hE m' hg
def g_X14_rule_0 (w : rf_w) (a1 : Int32) (a2 : Int32) (a3 : Int32) (m : rf_m) : Option (Int32 × rf_w × rf_m) := (if a1 < 0 then rf_b (g_X14_refused w (rf_i m 206 0 0) 2) fun y0 m0 => some (y0, w, m0) else (if ((rf_i m 206 0 0).1 206 44) < a1 then rf_b (g_X14_refused w (rf_i m 206 0 0) 2) fun y1 m1 => some (y1, w, m1) else rf_b (g_X14_isDay w (rf_i m 206 0 0) a2) fun y2 m2 => (if y2 = 0 then rf_b (g_X14_refused w m2 2) fun y3 m3 => some (y3, w, m3) else rf_b (g_X14_in w m2 a3 a2 9999) fun y4 m4 => (if y4 = 0 then rf_b (g_X14_refused w m4 2) fun y5 m5 => some (y5, w, m5) else h_X14_rule_56 w a2 a3 (rf_i (rf_i (rf_i m4 206 45 a1) 206 44 0) 206 3 0)))))
theorem s_X14_rule_0 {w : rf_w} {K : rf_K} {r : Int32 × rf_w × rf_m} {cells slots mc ms n0 : Nat} {K0 : rf_K} (B : rf_GB 14 cX14_rule 5 211 mc ms n0 K0 (rf_sh w) K ∧ rf_wok w ∧ cells + 3 ≤ mc ∧ slots + 607 ≤ ms) (hE : rf_EndG (some .int) K0 n0 (rf_sh r.2.1) (some (.int r.1)) (rf_MM r.2.1 r.2.2) mc ms) (hT : rf_Tab K [(56, 60, 63, 93)]) (a1 : Int32) (a2 : Int32) (a3 : Int32) (m : rf_m) (hg : g_X14_rule_0 w a1 a2 a3 m = some r) : rf_V 5 (rf_sh w) K cells slots 0 ([(0, .ref 206), (1, .int a1), (2, .int a2), (3, .int a3)], [], rf_MM w m) := by
  unfold g_X14_rule_0 at hg
  refine rf_seg B.1.1 [(.aload 0, 1), (.iconst 0, 1), (.multianewarray 14 0, 3), (.iload 1, 1)] (pc' := 6) (S' := ([(0, .ref 206), (1, .int a1), (2, .int a2), (3, .int a3)], [.int a1], rf_MM w (rf_i m 206 0 0))) (by decide +kernel) rfl trivial ?_
  refine rf_if_lt B.1.1 29 35 (by decide +kernel) (fun hc => ?_) (fun hc => ?_)
  · replace hg := (if_pos hc).symm.trans hg
    refine rf_seg B.1.1 [(.aload 0, 1), (.iconst 2, 1)] (pc' := 37) (S' := ([(0, .ref 206), (1, .int a1), (2, .int a2), (3, .int a3)], [.int 2, .ref 206], rf_MM w (rf_i m 206 0 0))) (by decide +kernel) rfl trivial ?_
    obtain ⟨y0, m0, hc0, hg⟩ := rf_b_some hg
    refine rf_callv B.1.1 (rf_gfit B.1 (Nat.le_trans (Nat.le_add_right _ _) B.2.2.1) (Nat.le_trans (Nat.le_add_right _ _) B.2.2.2)) j_X14_refused (ci := 14) (As := [.int 2]) (rest := []) mw_X14_refused (c_X14_refused hc0) (by decide) rfl (by decide) lk_14_353 rfl rfl (Nat.le_of_ble_eq_true rfl) (by decide +kernel) ?_
    show rf_V 5 (rf_sh w) K cells slots 40 ([(0, .ref 206), (1, .int a1), (2, .int a2), (3, .int a3)], [.int y0], rf_MM w m0)
    obtain rfl := Option.some.inj hg
    exact rf_iretG B.1 (Nat.le_trans (Nat.le_add_right _ _) B.2.2.1) (Nat.le_trans (Nat.le_add_right _ _) B.2.2.2) hE (by decide +kernel)
  · replace hg := (if_neg hc).symm.trans hg
    refine rf_seg B.1.1 [(.iload 1, 1), (.aload 0, 1), (.invokeinterface 14 44, 3)] (pc' := 14) (S' := ([(0, .ref 206), (1, .int a1), (2, .int a2), (3, .int a3)], [.int ((rf_i m 206 0 0).1 206 44), .int a1], rf_MM w (rf_i m 206 0 0))) (by decide +kernel) rfl trivial ?_
    refine rf_icmp_gt B.1.1 21 35 (by decide +kernel) (fun hc => ?_) (fun hc => ?_)
    · replace hg := (if_pos hc).symm.trans hg
      refine rf_seg B.1.1 [(.aload 0, 1), (.iconst 2, 1)] (pc' := 37) (S' := ([(0, .ref 206), (1, .int a1), (2, .int a2), (3, .int a3)], [.int 2, .ref 206], rf_MM w (rf_i m 206 0 0))) (by decide +kernel) rfl trivial ?_
      obtain ⟨y1, m1, hc1, hg⟩ := rf_b_some hg
      refine rf_callv B.1.1 (rf_gfit B.1 (Nat.le_trans (Nat.le_add_right _ _) B.2.2.1) (Nat.le_trans (Nat.le_add_right _ _) B.2.2.2)) j_X14_refused (ci := 14) (As := [.int 2]) (rest := []) mw_X14_refused (c_X14_refused hc1) (by decide) rfl (by decide) lk_14_353 rfl rfl (Nat.le_of_ble_eq_true rfl) (by decide +kernel) ?_
      show rf_V 5 (rf_sh w) K cells slots 40 ([(0, .ref 206), (1, .int a1), (2, .int a2), (3, .int a3)], [.int y1], rf_MM w m1)
      obtain rfl := Option.some.inj hg
      exact rf_iretG B.1 (Nat.le_trans (Nat.le_add_right _ _) B.2.2.1) (Nat.le_trans (Nat.le_add_right _ _) B.2.2.2) hE (by decide +kernel)
    · replace hg := (if_neg hc).symm.trans hg
      refine rf_seg B.1.1 [(.iload 2, 1)] (pc' := 18) (S' := ([(0, .ref 206), (1, .int a1), (2, .int a2), (3, .int a3)], [.int a2], rf_MM w (rf_i m 206 0 0))) (by decide +kernel) rfl trivial ?_
      obtain ⟨y2, m2, hc2, hg⟩ := rf_b_some hg
      refine rf_calls B.1.1 (rf_gfit B.1 (Nat.le_trans (Nat.le_add_right _ _) B.2.2.1) (Nat.le_trans (Nat.le_add_right _ _) B.2.2.2)) j_X14_isDay (As := [.int a2]) (rest := []) mw_X14_isDay (c_X14_isDay hc2) (by decide) lk_14_366 rfl rfl (Nat.le_of_ble_eq_true rfl) (by decide +kernel) ?_
      show rf_V 5 (rf_sh w) K cells slots 21 ([(0, .ref 206), (1, .int a1), (2, .int a2), (3, .int a3)], [.int y2], rf_MM w m2)
      refine rf_if_eq B.1.1 14 35 (by decide +kernel) (fun hc => ?_) (fun hc => ?_)
      · replace hg := (if_pos hc).symm.trans hg
        refine rf_seg B.1.1 [(.aload 0, 1), (.iconst 2, 1)] (pc' := 37) (S' := ([(0, .ref 206), (1, .int a1), (2, .int a2), (3, .int a3)], [.int 2, .ref 206], rf_MM w m2)) (by decide +kernel) rfl trivial ?_
        obtain ⟨y3, m3, hc3, hg⟩ := rf_b_some hg
        refine rf_callv B.1.1 (rf_gfit B.1 (Nat.le_trans (Nat.le_add_right _ _) B.2.2.1) (Nat.le_trans (Nat.le_add_right _ _) B.2.2.2)) j_X14_refused (ci := 14) (As := [.int 2]) (rest := []) mw_X14_refused (c_X14_refused hc3) (by decide) rfl (by decide) lk_14_353 rfl rfl (Nat.le_of_ble_eq_true rfl) (by decide +kernel) ?_
        show rf_V 5 (rf_sh w) K cells slots 40 ([(0, .ref 206), (1, .int a1), (2, .int a2), (3, .int a3)], [.int y3], rf_MM w m3)
        obtain rfl := Option.some.inj hg
        exact rf_iretG B.1 (Nat.le_trans (Nat.le_add_right _ _) B.2.2.1) (Nat.le_trans (Nat.le_add_right _ _) B.2.2.2) hE (by decide +kernel)
      · replace hg := (if_neg hc).symm.trans hg
        refine rf_seg B.1.1 [(.iload 3, 1), (.iload 2, 1), (.iconst 9999, 3)] (pc' := 29) (S' := ([(0, .ref 206), (1, .int a1), (2, .int a2), (3, .int a3)], [.int 9999, .int a2, .int a3], rf_MM w m2)) (by decide +kernel) rfl trivial ?_
        obtain ⟨y4, m4, hc4, hg⟩ := rf_b_some hg
        refine rf_calls B.1.1 (rf_gfit B.1 (Nat.le_trans (Nat.le_add_right _ _) B.2.2.1) (Nat.le_trans (Nat.le_add_right _ _) B.2.2.2)) j_X14_in (As := [.int a3, .int a2, .int 9999]) (rest := []) mw_X14_in (c_X14_in hc4) (by decide) lk_14_345 rfl rfl (Nat.le_of_ble_eq_true rfl) (by decide +kernel) ?_
        show rf_V 5 (rf_sh w) K cells slots 32 ([(0, .ref 206), (1, .int a1), (2, .int a2), (3, .int a3)], [.int y4], rf_MM w m4)
        refine rf_if_ne B.1.1 9 41 (by decide +kernel) (fun hc => ?_) (fun hc => ?_)
        · replace hg := (if_neg hc).symm.trans hg
          refine rf_seg B.1.1 [(.aload 0, 1), (.iload 1, 1), (.multianewarray 14 45, 3), (.aload 0, 1), (.iconst 0, 1), (.multianewarray 14 44, 3), (.aload 0, 1), (.iconst 0, 1), (.multianewarray 14 3, 3)] (pc' := 56) (S' := ([(0, .ref 206), (1, .int a1), (2, .int a2), (3, .int a3)], [], rf_MM w (rf_i (rf_i (rf_i m4 206 45 a1) 206 44 0) 206 3 0))) (by decide +kernel) rfl trivial ?_
          refine rf_few [0, 2, 3] rfl ?_
          exact t_X14_rule_56 B hE hT a2 a3 (rf_i (rf_i (rf_i m4 206 45 a1) 206 44 0) 206 3 0) hg
        · replace hg := (if_pos hc).symm.trans hg
          refine rf_seg B.1.1 [(.aload 0, 1), (.iconst 2, 1)] (pc' := 37) (S' := ([(0, .ref 206), (1, .int a1), (2, .int a2), (3, .int a3)], [.int 2, .ref 206], rf_MM w m4)) (by decide +kernel) rfl trivial ?_
          obtain ⟨y5, m5, hc5, hg⟩ := rf_b_some hg
          refine rf_callv B.1.1 (rf_gfit B.1 (Nat.le_trans (Nat.le_add_right _ _) B.2.2.1) (Nat.le_trans (Nat.le_add_right _ _) B.2.2.2)) j_X14_refused (ci := 14) (As := [.int 2]) (rest := []) mw_X14_refused (c_X14_refused hc5) (by decide) rfl (by decide) lk_14_353 rfl rfl (Nat.le_of_ble_eq_true rfl) (by decide +kernel) ?_
          show rf_V 5 (rf_sh w) K cells slots 40 ([(0, .ref 206), (1, .int a1), (2, .int a2), (3, .int a3)], [.int y5], rf_MM w m5)
          obtain rfl := Option.some.inj hg
          exact rf_iretG B.1 (Nat.le_trans (Nat.le_add_right _ _) B.2.2.1) (Nat.le_trans (Nat.le_add_right _ _) B.2.2.2) hE (by decide +kernel)
abbrev j_X14_rule : rf_J := (14, yX14_rule, cX14_rule, 5, (some .int))
theorem mw_X14_rule : rf_mw j_X14_rule [(56, 60, 63, 93)] (rf_R 14) 3 := ⟨⟨(rf_mem 47 (by decide +kernel)), (rf_mem 47 (by decide +kernel)), (rf_mem 0 (by decide +kernel)), (rf_mem 47 (by decide +kernel))⟩, by decide +kernel, by decide⟩
theorem c_X14_rule {w : rf_w} (hw : rf_wok w) {m : rf_m} {a1 a2 a3 : Int32} {r : Int32 × rf_w × rf_m} (hg : g_X14_rule_0 w a1 a2 a3 m = some r) : rf_GConW j_X14_rule [(56, 60, 63, 93)] 211 3 607 (rf_sh w) [.ref 206, .int a1, .int a2, .int a3] (rf_MM w m) (some (.int r.1)) (rf_sh r.2.1) (rf_MM r.2.1 r.2.2) := by
  refine rf_gconW j_X14_rule [(56, 60, 63, 93)] 211 3 607 ⟨by decide +kernel, rfl, Or.inr rfl, Nat.le_of_ble_eq_true rfl⟩ (fun K B hE hT => ?_)
  exact s_X14_rule_0 (cells := 0) (slots := 0) ⟨B, hw, by decide, by decide⟩ hE hT a1 a2 a3 m hg
-- strike
def g_X14_strike_132 (w : rf_w) (a1 : Int32) (a3 : Int32) (m : rf_m) : Option (Int32 × rf_w × rf_m) := rf_o (w.2.2 1) fun k0 => rf_o (rf_al w k0) fun k1 => rf_g (rf_in (3 * (m.1 206 18)) k1) (rf_o (w.2.2 1) fun k3 => rf_o (rf_al w k3) fun k4 => rf_g (rf_in ((3 * ((rf_i m k0 (Int32.toNatClampNeg (3 * (m.1 206 18))) a1).1 206 18)) + 1) k4) (rf_o (w.2.2 1) fun k6 => rf_o (rf_al w k6) fun k7 => (if a3 = 0 then rf_g (rf_in ((3 * ((rf_i (rf_i m k0 (Int32.toNatClampNeg (3 * (m.1 206 18))) a1) k3 (Int32.toNatClampNeg ((3 * ((rf_i m k0 (Int32.toNatClampNeg (3 * (m.1 206 18))) a1).1 206 18)) + 1)) ((rf_i m k0 (Int32.toNatClampNeg (3 * (m.1 206 18))) a1).1 206 5)).1 206 18)) + 2) k7) (rf_b (g_X14_granted w (rf_i (rf_i (rf_i (rf_i m k0 (Int32.toNatClampNeg (3 * (m.1 206 18))) a1) k3 (Int32.toNatClampNeg ((3 * ((rf_i m k0 (Int32.toNatClampNeg (3 * (m.1 206 18))) a1).1 206 18)) + 1)) ((rf_i m k0 (Int32.toNatClampNeg (3 * (m.1 206 18))) a1).1 206 5)) k6 (Int32.toNatClampNeg ((3 * ((rf_i (rf_i m k0 (Int32.toNatClampNeg (3 * (m.1 206 18))) a1) k3 (Int32.toNatClampNeg ((3 * ((rf_i m k0 (Int32.toNatClampNeg (3 * (m.1 206 18))) a1).1 206 18)) + 1)) ((rf_i m k0 (Int32.toNatClampNeg (3 * (m.1 206 18))) a1).1 206 5)).1 206 18)) + 2)) 0) 206 18 (((rf_i (rf_i (rf_i m k0 (Int32.toNatClampNeg (3 * (m.1 206 18))) a1) k3 (Int32.toNatClampNeg ((3 * ((rf_i m k0 (Int32.toNatClampNeg (3 * (m.1 206 18))) a1).1 206 18)) + 1)) ((rf_i m k0 (Int32.toNatClampNeg (3 * (m.1 206 18))) a1).1 206 5)) k6 (Int32.toNatClampNeg ((3 * ((rf_i (rf_i m k0 (Int32.toNatClampNeg (3 * (m.1 206 18))) a1) k3 (Int32.toNatClampNeg ((3 * ((rf_i m k0 (Int32.toNatClampNeg (3 * (m.1 206 18))) a1).1 206 18)) + 1)) ((rf_i m k0 (Int32.toNatClampNeg (3 * (m.1 206 18))) a1).1 206 5)).1 206 18)) + 2)) 0).1 206 18) + 1))) fun y9 m9 => rf_g (rf_01 y9) (some (y9, w, m9))) else rf_g (rf_in ((3 * ((rf_i (rf_i m k0 (Int32.toNatClampNeg (3 * (m.1 206 18))) a1) k3 (Int32.toNatClampNeg ((3 * ((rf_i m k0 (Int32.toNatClampNeg (3 * (m.1 206 18))) a1).1 206 18)) + 1)) ((rf_i m k0 (Int32.toNatClampNeg (3 * (m.1 206 18))) a1).1 206 5)).1 206 18)) + 2) k7) (rf_b (g_X14_granted w (rf_i (rf_i (rf_i (rf_i m k0 (Int32.toNatClampNeg (3 * (m.1 206 18))) a1) k3 (Int32.toNatClampNeg ((3 * ((rf_i m k0 (Int32.toNatClampNeg (3 * (m.1 206 18))) a1).1 206 18)) + 1)) ((rf_i m k0 (Int32.toNatClampNeg (3 * (m.1 206 18))) a1).1 206 5)) k6 (Int32.toNatClampNeg ((3 * ((rf_i (rf_i m k0 (Int32.toNatClampNeg (3 * (m.1 206 18))) a1) k3 (Int32.toNatClampNeg ((3 * ((rf_i m k0 (Int32.toNatClampNeg (3 * (m.1 206 18))) a1).1 206 18)) + 1)) ((rf_i m k0 (Int32.toNatClampNeg (3 * (m.1 206 18))) a1).1 206 5)).1 206 18)) + 2)) 1) 206 18 (((rf_i (rf_i (rf_i m k0 (Int32.toNatClampNeg (3 * (m.1 206 18))) a1) k3 (Int32.toNatClampNeg ((3 * ((rf_i m k0 (Int32.toNatClampNeg (3 * (m.1 206 18))) a1).1 206 18)) + 1)) ((rf_i m k0 (Int32.toNatClampNeg (3 * (m.1 206 18))) a1).1 206 5)) k6 (Int32.toNatClampNeg ((3 * ((rf_i (rf_i m k0 (Int32.toNatClampNeg (3 * (m.1 206 18))) a1) k3 (Int32.toNatClampNeg ((3 * ((rf_i m k0 (Int32.toNatClampNeg (3 * (m.1 206 18))) a1).1 206 18)) + 1)) ((rf_i m k0 (Int32.toNatClampNeg (3 * (m.1 206 18))) a1).1 206 5)).1 206 18)) + 2)) 1).1 206 18) + 1))) fun y11 m11 => rf_g (rf_01 y11) (some (y11, w, m11))))))
theorem s_X14_strike_132 {w : rf_w} {K : rf_K} {r : Int32 × rf_w × rf_m} {cells slots mc ms n0 : Nat} {K0 : rf_K} (B : rf_GB 14 cX14_strike 6 6 mc ms n0 K0 (rf_sh w) K ∧ rf_wok w ∧ cells + 0 ≤ mc ∧ slots + 0 ≤ ms) (hE : rf_EndG (some .boolean) K0 n0 (rf_sh r.2.1) (some (.int r.1)) (rf_MM r.2.1 r.2.2) mc ms) (a1 : Int32) (a3 : Int32) (m : rf_m) (hg : g_X14_strike_132 w a1 a3 m = some r) : rf_V 6 (rf_sh w) K cells slots 132 ([(0, .ref 206), (1, .int a1), (3, .int a3)], [], rf_MM w m) := by
  unfold g_X14_strike_132 at hg
  refine rf_seg B.1.1 [(.aload 0, 1)] (pc' := 133) (S' := ([(0, .ref 206), (1, .int a1), (3, .int a3)], [.ref 206], rf_MM w m)) (by decide +kernel) rfl trivial ?_
  obtain ⟨k0, hk0, hg⟩ := rf_o_some hg
  refine rf_d_getr B.1.1 14 29 (q := k0) rfl rfl hk0 (by decide +kernel) ?_
  obtain ⟨k1, hk1, hg⟩ := rf_o_some hg
  show rf_V 6 (rf_sh w) K cells slots 136 ([(0, .ref 206), (1, .int a1), (3, .int a3)], [.ref k0], rf_MM w m)
  refine rf_seg B.1.1 [(.iconst 3, 1), (.aload 0, 1), (.invokeinterface 14 18, 3), (.imul, 1), (.iload 1, 1)] (pc' := 143) (S' := ([(0, .ref 206), (1, .int a1), (3, .int a3)], [.int a1, .int (3 * (m.1 206 18)), .ref k0], rf_MM w m)) (by decide +kernel) rfl trivial ?_
  obtain ⟨q2, hg⟩ := rf_g_some hg
  refine rf_d_iastore B.1.1 (rf_al_of hk1) (rf_in_of q2) (by decide +kernel) ?_
  show rf_V 6 (rf_sh w) K cells slots 144 ([(0, .ref 206), (1, .int a1), (3, .int a3)], [], rf_MM w (rf_i m k0 (Int32.toNatClampNeg (3 * (m.1 206 18))) a1))
  refine rf_seg B.1.1 [(.aload 0, 1)] (pc' := 145) (S' := ([(0, .ref 206), (1, .int a1), (3, .int a3)], [.ref 206], rf_MM w (rf_i m k0 (Int32.toNatClampNeg (3 * (m.1 206 18))) a1))) (by decide +kernel) rfl trivial ?_
  obtain ⟨k3, hk3, hg⟩ := rf_o_some hg
  refine rf_d_getr B.1.1 14 29 (q := k3) rfl rfl hk3 (by decide +kernel) ?_
  obtain ⟨k4, hk4, hg⟩ := rf_o_some hg
  show rf_V 6 (rf_sh w) K cells slots 148 ([(0, .ref 206), (1, .int a1), (3, .int a3)], [.ref k3], rf_MM w (rf_i m k0 (Int32.toNatClampNeg (3 * (m.1 206 18))) a1))
  refine rf_seg B.1.1 [(.iconst 3, 1), (.aload 0, 1), (.invokeinterface 14 18, 3), (.imul, 1), (.iconst 1, 1), (.iadd, 1), (.aload 0, 1), (.invokeinterface 14 5, 3)] (pc' := 160) (S' := ([(0, .ref 206), (1, .int a1), (3, .int a3)], [.int ((rf_i m k0 (Int32.toNatClampNeg (3 * (m.1 206 18))) a1).1 206 5), .int ((3 * ((rf_i m k0 (Int32.toNatClampNeg (3 * (m.1 206 18))) a1).1 206 18)) + 1), .ref k3], rf_MM w (rf_i m k0 (Int32.toNatClampNeg (3 * (m.1 206 18))) a1))) (by decide +kernel) rfl trivial ?_
  obtain ⟨q5, hg⟩ := rf_g_some hg
  refine rf_d_iastore B.1.1 (rf_al_of hk4) (rf_in_of q5) (by decide +kernel) ?_
  show rf_V 6 (rf_sh w) K cells slots 161 ([(0, .ref 206), (1, .int a1), (3, .int a3)], [], rf_MM w (rf_i (rf_i m k0 (Int32.toNatClampNeg (3 * (m.1 206 18))) a1) k3 (Int32.toNatClampNeg ((3 * ((rf_i m k0 (Int32.toNatClampNeg (3 * (m.1 206 18))) a1).1 206 18)) + 1)) ((rf_i m k0 (Int32.toNatClampNeg (3 * (m.1 206 18))) a1).1 206 5)))
  refine rf_seg B.1.1 [(.aload 0, 1)] (pc' := 162) (S' := ([(0, .ref 206), (1, .int a1), (3, .int a3)], [.ref 206], rf_MM w (rf_i (rf_i m k0 (Int32.toNatClampNeg (3 * (m.1 206 18))) a1) k3 (Int32.toNatClampNeg ((3 * ((rf_i m k0 (Int32.toNatClampNeg (3 * (m.1 206 18))) a1).1 206 18)) + 1)) ((rf_i m k0 (Int32.toNatClampNeg (3 * (m.1 206 18))) a1).1 206 5)))) (by decide +kernel) rfl trivial ?_
  obtain ⟨k6, hk6, hg⟩ := rf_o_some hg
  refine rf_d_getr B.1.1 14 29 (q := k6) rfl rfl hk6 (by decide +kernel) ?_
  obtain ⟨k7, hk7, hg⟩ := rf_o_some hg
  show rf_V 6 (rf_sh w) K cells slots 165 ([(0, .ref 206), (1, .int a1), (3, .int a3)], [.ref k6], rf_MM w (rf_i (rf_i m k0 (Int32.toNatClampNeg (3 * (m.1 206 18))) a1) k3 (Int32.toNatClampNeg ((3 * ((rf_i m k0 (Int32.toNatClampNeg (3 * (m.1 206 18))) a1).1 206 18)) + 1)) ((rf_i m k0 (Int32.toNatClampNeg (3 * (m.1 206 18))) a1).1 206 5)))
  refine rf_seg B.1.1 [(.iconst 3, 1), (.aload 0, 1), (.invokeinterface 14 18, 3), (.imul, 1), (.iconst 2, 1), (.iadd, 1), (.iload 3, 1)] (pc' := 174) (S' := ([(0, .ref 206), (1, .int a1), (3, .int a3)], [.int a3, .int ((3 * ((rf_i (rf_i m k0 (Int32.toNatClampNeg (3 * (m.1 206 18))) a1) k3 (Int32.toNatClampNeg ((3 * ((rf_i m k0 (Int32.toNatClampNeg (3 * (m.1 206 18))) a1).1 206 18)) + 1)) ((rf_i m k0 (Int32.toNatClampNeg (3 * (m.1 206 18))) a1).1 206 5)).1 206 18)) + 2), .ref k6], rf_MM w (rf_i (rf_i m k0 (Int32.toNatClampNeg (3 * (m.1 206 18))) a1) k3 (Int32.toNatClampNeg ((3 * ((rf_i m k0 (Int32.toNatClampNeg (3 * (m.1 206 18))) a1).1 206 18)) + 1)) ((rf_i m k0 (Int32.toNatClampNeg (3 * (m.1 206 18))) a1).1 206 5)))) (by decide +kernel) rfl trivial ?_
  refine rf_if_eq B.1.1 7 181 (by decide +kernel) (fun hc => ?_) (fun hc => ?_)
  · replace hg := (if_pos hc).symm.trans hg
    refine rf_seg B.1.1 [(.iconst 0, 1)] (pc' := 182) (S' := ([(0, .ref 206), (1, .int a1), (3, .int a3)], [.int 0, .int ((3 * ((rf_i (rf_i m k0 (Int32.toNatClampNeg (3 * (m.1 206 18))) a1) k3 (Int32.toNatClampNeg ((3 * ((rf_i m k0 (Int32.toNatClampNeg (3 * (m.1 206 18))) a1).1 206 18)) + 1)) ((rf_i m k0 (Int32.toNatClampNeg (3 * (m.1 206 18))) a1).1 206 5)).1 206 18)) + 2), .ref k6], rf_MM w (rf_i (rf_i m k0 (Int32.toNatClampNeg (3 * (m.1 206 18))) a1) k3 (Int32.toNatClampNeg ((3 * ((rf_i m k0 (Int32.toNatClampNeg (3 * (m.1 206 18))) a1).1 206 18)) + 1)) ((rf_i m k0 (Int32.toNatClampNeg (3 * (m.1 206 18))) a1).1 206 5)))) (by decide +kernel) rfl trivial ?_
    obtain ⟨q8, hg⟩ := rf_g_some hg
    refine rf_d_iastore B.1.1 (rf_al_of hk7) (rf_in_of q8) (by decide +kernel) ?_
    show rf_V 6 (rf_sh w) K cells slots 183 ([(0, .ref 206), (1, .int a1), (3, .int a3)], [], rf_MM w (rf_i (rf_i (rf_i m k0 (Int32.toNatClampNeg (3 * (m.1 206 18))) a1) k3 (Int32.toNatClampNeg ((3 * ((rf_i m k0 (Int32.toNatClampNeg (3 * (m.1 206 18))) a1).1 206 18)) + 1)) ((rf_i m k0 (Int32.toNatClampNeg (3 * (m.1 206 18))) a1).1 206 5)) k6 (Int32.toNatClampNeg ((3 * ((rf_i (rf_i m k0 (Int32.toNatClampNeg (3 * (m.1 206 18))) a1) k3 (Int32.toNatClampNeg ((3 * ((rf_i m k0 (Int32.toNatClampNeg (3 * (m.1 206 18))) a1).1 206 18)) + 1)) ((rf_i m k0 (Int32.toNatClampNeg (3 * (m.1 206 18))) a1).1 206 5)).1 206 18)) + 2)) 0))
    refine rf_seg B.1.1 [(.aload 0, 1), (.dup, 1), (.invokeinterface 14 18, 3), (.iconst 1, 1), (.iadd, 1), (.multianewarray 14 18, 3), (.aload 0, 1)] (pc' := 194) (S' := ([(0, .ref 206), (1, .int a1), (3, .int a3)], [.ref 206], rf_MM w (rf_i (rf_i (rf_i (rf_i m k0 (Int32.toNatClampNeg (3 * (m.1 206 18))) a1) k3 (Int32.toNatClampNeg ((3 * ((rf_i m k0 (Int32.toNatClampNeg (3 * (m.1 206 18))) a1).1 206 18)) + 1)) ((rf_i m k0 (Int32.toNatClampNeg (3 * (m.1 206 18))) a1).1 206 5)) k6 (Int32.toNatClampNeg ((3 * ((rf_i (rf_i m k0 (Int32.toNatClampNeg (3 * (m.1 206 18))) a1) k3 (Int32.toNatClampNeg ((3 * ((rf_i m k0 (Int32.toNatClampNeg (3 * (m.1 206 18))) a1).1 206 18)) + 1)) ((rf_i m k0 (Int32.toNatClampNeg (3 * (m.1 206 18))) a1).1 206 5)).1 206 18)) + 2)) 0) 206 18 (((rf_i (rf_i (rf_i m k0 (Int32.toNatClampNeg (3 * (m.1 206 18))) a1) k3 (Int32.toNatClampNeg ((3 * ((rf_i m k0 (Int32.toNatClampNeg (3 * (m.1 206 18))) a1).1 206 18)) + 1)) ((rf_i m k0 (Int32.toNatClampNeg (3 * (m.1 206 18))) a1).1 206 5)) k6 (Int32.toNatClampNeg ((3 * ((rf_i (rf_i m k0 (Int32.toNatClampNeg (3 * (m.1 206 18))) a1) k3 (Int32.toNatClampNeg ((3 * ((rf_i m k0 (Int32.toNatClampNeg (3 * (m.1 206 18))) a1).1 206 18)) + 1)) ((rf_i m k0 (Int32.toNatClampNeg (3 * (m.1 206 18))) a1).1 206 5)).1 206 18)) + 2)) 0).1 206 18) + 1)))) (by decide +kernel) rfl trivial ?_
    obtain ⟨y9, m9, hc9, hg⟩ := rf_b_some hg
    refine rf_callv B.1.1 (rf_gfit B.1 (Nat.le_trans (Nat.le_add_right _ _) B.2.2.1) (Nat.le_trans (Nat.le_add_right _ _) B.2.2.2)) j_X14_granted (ci := 14) (As := []) (rest := []) mw_X14_granted (c_X14_granted hc9) (by decide) rfl (by decide) lk_14_349 rfl rfl (Nat.le_of_ble_eq_true rfl) (by decide +kernel) ?_
    show rf_V 6 (rf_sh w) K cells slots 197 ([(0, .ref 206), (1, .int a1), (3, .int a3)], [.int y9], rf_MM w m9)
    obtain ⟨q01, hg⟩ := rf_g_some hg
    obtain rfl := Option.some.inj hg
    exact rf_zretG B.1 (Nat.le_trans (Nat.le_add_right _ _) B.2.2.1) (Nat.le_trans (Nat.le_add_right _ _) B.2.2.2) hE (rf_01_of q01) (by decide +kernel)
  · replace hg := (if_neg hc).symm.trans hg
    refine rf_seg B.1.1 [(.iconst 1, 1)] (pc' := 178) (S' := ([(0, .ref 206), (1, .int a1), (3, .int a3)], [.int 1, .int ((3 * ((rf_i (rf_i m k0 (Int32.toNatClampNeg (3 * (m.1 206 18))) a1) k3 (Int32.toNatClampNeg ((3 * ((rf_i m k0 (Int32.toNatClampNeg (3 * (m.1 206 18))) a1).1 206 18)) + 1)) ((rf_i m k0 (Int32.toNatClampNeg (3 * (m.1 206 18))) a1).1 206 5)).1 206 18)) + 2), .ref k6], rf_MM w (rf_i (rf_i m k0 (Int32.toNatClampNeg (3 * (m.1 206 18))) a1) k3 (Int32.toNatClampNeg ((3 * ((rf_i m k0 (Int32.toNatClampNeg (3 * (m.1 206 18))) a1).1 206 18)) + 1)) ((rf_i m k0 (Int32.toNatClampNeg (3 * (m.1 206 18))) a1).1 206 5)))) (by decide +kernel) rfl trivial ?_
    refine rf_goto B.1.1 4 182 (by decide +kernel) ?_
    obtain ⟨q10, hg⟩ := rf_g_some hg
    refine rf_d_iastore B.1.1 (rf_al_of hk7) (rf_in_of q10) (by decide +kernel) ?_
    show rf_V 6 (rf_sh w) K cells slots 183 ([(0, .ref 206), (1, .int a1), (3, .int a3)], [], rf_MM w (rf_i (rf_i (rf_i m k0 (Int32.toNatClampNeg (3 * (m.1 206 18))) a1) k3 (Int32.toNatClampNeg ((3 * ((rf_i m k0 (Int32.toNatClampNeg (3 * (m.1 206 18))) a1).1 206 18)) + 1)) ((rf_i m k0 (Int32.toNatClampNeg (3 * (m.1 206 18))) a1).1 206 5)) k6 (Int32.toNatClampNeg ((3 * ((rf_i (rf_i m k0 (Int32.toNatClampNeg (3 * (m.1 206 18))) a1) k3 (Int32.toNatClampNeg ((3 * ((rf_i m k0 (Int32.toNatClampNeg (3 * (m.1 206 18))) a1).1 206 18)) + 1)) ((rf_i m k0 (Int32.toNatClampNeg (3 * (m.1 206 18))) a1).1 206 5)).1 206 18)) + 2)) 1))
    refine rf_seg B.1.1 [(.aload 0, 1), (.dup, 1), (.invokeinterface 14 18, 3), (.iconst 1, 1), (.iadd, 1), (.multianewarray 14 18, 3), (.aload 0, 1)] (pc' := 194) (S' := ([(0, .ref 206), (1, .int a1), (3, .int a3)], [.ref 206], rf_MM w (rf_i (rf_i (rf_i (rf_i m k0 (Int32.toNatClampNeg (3 * (m.1 206 18))) a1) k3 (Int32.toNatClampNeg ((3 * ((rf_i m k0 (Int32.toNatClampNeg (3 * (m.1 206 18))) a1).1 206 18)) + 1)) ((rf_i m k0 (Int32.toNatClampNeg (3 * (m.1 206 18))) a1).1 206 5)) k6 (Int32.toNatClampNeg ((3 * ((rf_i (rf_i m k0 (Int32.toNatClampNeg (3 * (m.1 206 18))) a1) k3 (Int32.toNatClampNeg ((3 * ((rf_i m k0 (Int32.toNatClampNeg (3 * (m.1 206 18))) a1).1 206 18)) + 1)) ((rf_i m k0 (Int32.toNatClampNeg (3 * (m.1 206 18))) a1).1 206 5)).1 206 18)) + 2)) 1) 206 18 (((rf_i (rf_i (rf_i m k0 (Int32.toNatClampNeg (3 * (m.1 206 18))) a1) k3 (Int32.toNatClampNeg ((3 * ((rf_i m k0 (Int32.toNatClampNeg (3 * (m.1 206 18))) a1).1 206 18)) + 1)) ((rf_i m k0 (Int32.toNatClampNeg (3 * (m.1 206 18))) a1).1 206 5)) k6 (Int32.toNatClampNeg ((3 * ((rf_i (rf_i m k0 (Int32.toNatClampNeg (3 * (m.1 206 18))) a1) k3 (Int32.toNatClampNeg ((3 * ((rf_i m k0 (Int32.toNatClampNeg (3 * (m.1 206 18))) a1).1 206 18)) + 1)) ((rf_i m k0 (Int32.toNatClampNeg (3 * (m.1 206 18))) a1).1 206 5)).1 206 18)) + 2)) 1).1 206 18) + 1)))) (by decide +kernel) rfl trivial ?_
    obtain ⟨y11, m11, hc11, hg⟩ := rf_b_some hg
    refine rf_callv B.1.1 (rf_gfit B.1 (Nat.le_trans (Nat.le_add_right _ _) B.2.2.1) (Nat.le_trans (Nat.le_add_right _ _) B.2.2.2)) j_X14_granted (ci := 14) (As := []) (rest := []) mw_X14_granted (c_X14_granted hc11) (by decide) rfl (by decide) lk_14_349 rfl rfl (Nat.le_of_ble_eq_true rfl) (by decide +kernel) ?_
    show rf_V 6 (rf_sh w) K cells slots 197 ([(0, .ref 206), (1, .int a1), (3, .int a3)], [.int y11], rf_MM w m11)
    obtain ⟨q01, hg⟩ := rf_g_some hg
    obtain rfl := Option.some.inj hg
    exact rf_zretG B.1 (Nat.le_trans (Nat.le_add_right _ _) B.2.2.1) (Nat.le_trans (Nat.le_add_right _ _) B.2.2.2) hE (rf_01_of q01) (by decide +kernel)
/-- another log -/
def rf_wlog (w : rf_w) (a : Nat) : rf_w := (w.1, w.2.1, fun i => if i = 1 then some a else w.2.2 i)
theorem rf_wlog_ok {w : rf_w} (hw : rf_wok w) {a : Nat} (h : a < w.1) : rf_wok (rf_wlog w a) := by
  refine ⟨hw.1, hw.2.1, fun i j e => ?_, hw.2.2.2⟩
  have e : (if i = 1 then some a else w.2.2 i) = some j := e
  split at e
  · obtain rfl := Option.some.inj e; exact h
  · exact hw.2.2.1 i j e
theorem rf_wlog_Rt {w : rf_w} (hw : rf_wok w) {a : Nat} (m : rf_m) : rf_Ag w.1 (rf_uR (rf_MM w m) 206 29 (some a)) (rf_MM (rf_wlog w a) m) := by
  intro k hk i
  refine ⟨rfl, rfl, ?_⟩
  show rf_Rt (rf_wlog w a) k i = (if k = 206 ∧ i = 29 then some a else rf_Rt w k i)
  by_cases c1 : k = 206 ∧ i = 29
  · obtain ⟨rfl, rfl⟩ := c1
    rw [if_pos ⟨rfl, rfl⟩]
    rfl
  · rw [if_neg c1]
    refine rf_Rt_cong (fun _ _ => rfl) (fun x y => absurd ⟨x, y⟩ c1) (fun _ => ?_) (fun _ => rfl)
    show (if i + 2 = 1 then some a else w.2.2 (i + 2)) = w.2.2 (i + 2)
    rw [if_neg (by omega)]
theorem rf_w1_ok {w : rf_w} (hw : rf_wok w) (h : w.1 + 1 < 1000000) (t : FieldType) (n : Nat) : rf_wok (rf_w1 w (.inl (t, n))) := by
  have hn := hw.1.1
  refine ⟨⟨show 306 ≤ w.1 + 1 by omega, h⟩, fun k hk => ?_, fun i j e => Nat.lt_succ_of_lt (hw.2.2.1 i j e), fun k hk e => ?_⟩
  · show (if k = w.1 then some (.inl (t, n)) else w.2.1 k : Option rf_C).isSome = true ↔ k < w.1 + 1
    have := hw.2.1 k hk
    split
    · exact ⟨fun _ => by omega, fun _ => rfl⟩
    · rw [this]; omega
  · show k + 2 < w.1 + 1
    have e : (if k = w.1 then some (.inl (t, n)) else w.2.1 k : Option rf_C) = some (.inr 12) := e
    split at e
    · cases e
    · have := hw.2.2.2 k hk e; omega
theorem rf_w1_Rt {w : rf_w} (hw : rf_wok w) (t : FieldType) (n : Nat) (m : rf_m) : rf_Ag (w.1 + 1) (rf_MM w m) (rf_MM (rf_w1 w (.inl (t, n))) m) := by
  have hn := hw.1.1
  intro k hk i
  refine ⟨rfl, rfl, ?_⟩
  show rf_Rt (rf_w1 w (.inl (t, n))) k i = rf_Rt w k i
  by_cases c : k = w.1
  · subst c
    rw [rf_Rt_none hw (Nat.le_refl _), rf_Rt_hi hn]
    unfold rf_rz
    have e : (rf_w1 w (.inl (t, n))).2.1 w.1 = some (.inl (t, n)) := if_pos rfl
    rw [e]
  · exact rf_Rt_cong (fun _ _ => rfl) (fun _ _ => rfl) (fun _ => rfl) (fun _ => if_neg c)
def h_X14_strike_126 (w : rf_w) (a1 a3 : Int32) (a4 : Nat) (m : rf_m) : Option (Int32 × rf_w × rf_m) := rf_g (Nat.ble (a4 + 1) w.1) (g_X14_strike_132 (rf_wlog w a4) a1 a3 m)
theorem t_X14_strike_126 {w : rf_w} {K : rf_K} {r : Int32 × rf_w × rf_m} {cells slots mc ms n0 : Nat} {K0 : rf_K} (B : rf_GB 14 cX14_strike 6 6 mc ms n0 K0 (rf_sh w) K ∧ rf_wok w ∧ cells + 0 ≤ mc ∧ slots + 0 ≤ ms) (hE : rf_EndG (some .boolean) K0 n0 (rf_sh r.2.1) (some (.int r.1)) (rf_MM r.2.1 r.2.2) mc ms) (a1 a3 : Int32) (a4 : Nat) (m : rf_m) (hg : h_X14_strike_126 w a1 a3 a4 m = some r) : rf_V 6 (rf_sh w) K cells slots 126 ([(0, .ref 206), (1, .int a1), (3, .int a3), (4, .ref a4)], [], rf_MM w m) := by
  unfold h_X14_strike_126 at hg
  obtain ⟨q1, hg⟩ := rf_g_some hg
  obtain ⟨B, hw, hcl, hsl⟩ := B
  refine rf_seg B.1 [(.aload 0, 1), (.aload 4, 2)] (pc' := 129) (S' := ([(0, .ref 206), (1, .int a1), (3, .int a3), (4, .ref a4)], [.ref a4, .ref 206], rf_MM w m)) (by decide +kernel) rfl trivial ?_
  refine rf_gputn (idx := 70) B.1 14 29 rfl rfl rfl (by decide +kernel) (by decide +kernel) ?_
  refine rf_V_ag (sh := rf_sh (rf_wlog w a4)) (M' := rf_MM (rf_wlog w a4) m) (rf_wlog_Rt hw m) ?_
  refine rf_few [0, 1, 2] rfl ?_
  exact s_X14_strike_132 (w := rf_wlog w a4) ⟨B, rf_wlog_ok hw (Nat.le_of_ble_eq_true q1), hcl, hsl⟩ hE a1 a3 m hg
def g_X14_strike_98_b (w : rf_w) (rec98 : Int32 → Int32 → Nat → Int32 → rf_m → Option (Int32 × rf_w × rf_m)) (a1 : Int32) (a3 : Int32) (a4 : Nat) (a5 : Int32) (m : rf_m) : Option (Int32 × rf_w × rf_m) := rf_o (rf_al w a4) fun k0 => rf_o (w.2.2 1) fun k1 => rf_o (rf_al w k1) fun k2 => (if (Int32.ofNat k2) ≤ a5 then h_X14_strike_126 w a1 a3 a4 m else rf_o (w.2.2 1) fun k3 => rf_o (rf_al w k3) fun k4 => rf_g (rf_in a5 k4) (rf_g (rf_in a5 k0) (rec98 a1 a3 a4 (a5 + 1) (rf_i m a4 (Int32.toNatClampNeg a5) (m.1 k3 (Int32.toNatClampNeg a5))))))
def g_X14_strike_98 (w : rf_w) : Nat → Int32 → Int32 → Nat → Int32 → rf_m → Option (Int32 × rf_w × rf_m)
  | 0, _, _, _, _, _ => none
  | n + 1, a1, a3, a4, a5, m => g_X14_strike_98_b w (g_X14_strike_98 w n) a1 a3 a4 a5 m
theorem s_X14_strike_98_b {w : rf_w} {K : rf_K} {r : Int32 × rf_w × rf_m} {cells slots mc ms n0 : Nat} {K0 : rf_K} (B : rf_GB 14 cX14_strike 6 6 mc ms n0 K0 (rf_sh w) K ∧ rf_wok w ∧ cells + 0 ≤ mc ∧ slots + 0 ≤ ms) (hE : rf_EndG (some .boolean) K0 n0 (rf_sh r.2.1) (some (.int r.1)) (rf_MM r.2.1 r.2.2) mc ms) {rec98 : Int32 → Int32 → Nat → Int32 → rf_m → Option (Int32 × rf_w × rf_m)} (hr98 : ∀ (a1 : Int32) (a3 : Int32) (a4 : Nat) (a5 : Int32) (m : rf_m), rec98 a1 a3 a4 a5 m = some r → rf_V 6 (rf_sh w) K cells slots 98 ([(0, .ref 206), (1, .int a1), (3, .int a3), (4, .ref a4), (5, .int a5)], [], rf_MM w m)) (a1 : Int32) (a3 : Int32) (a4 : Nat) (a5 : Int32) (m : rf_m) (hg : g_X14_strike_98_b w rec98 a1 a3 a4 a5 m = some r) : rf_V 6 (rf_sh w) K cells slots 98 ([(0, .ref 206), (1, .int a1), (3, .int a3), (4, .ref a4), (5, .int a5)], [], rf_MM w m) := by
  unfold g_X14_strike_98_b at hg
  obtain ⟨k0, hk0, hg⟩ := rf_o_some hg
  refine rf_seg B.1.1 [(.iload 5, 2), (.aload 0, 1)] (pc' := 101) (S' := ([(0, .ref 206), (1, .int a1), (3, .int a3), (4, .ref a4), (5, .int a5)], [.ref 206, .int a5], rf_MM w m)) (by decide +kernel) rfl trivial ?_
  obtain ⟨k1, hk1, hg⟩ := rf_o_some hg
  refine rf_d_getr B.1.1 14 29 (q := k1) rfl rfl hk1 (by decide +kernel) ?_
  obtain ⟨k2, hk2, hg⟩ := rf_o_some hg
  show rf_V 6 (rf_sh w) K cells slots 104 ([(0, .ref 206), (1, .int a1), (3, .int a3), (4, .ref a4), (5, .int a5)], [.ref k1, .int a5], rf_MM w m)
  refine rf_d_alen B.1.1 (rf_al_of hk2) (by decide +kernel) ?_
  show rf_V 6 (rf_sh w) K cells slots 105 ([(0, .ref 206), (1, .int a1), (3, .int a3), (4, .ref a4), (5, .int a5)], [.int (Int32.ofNat k2), .int a5], rf_MM w m)
  refine rf_icmp_ge B.1.1 21 126 (by decide +kernel) (fun hc => ?_) (fun hc => ?_)
  · replace hg := (if_pos hc).symm.trans hg
    refine rf_few [0, 1, 2, 3] rfl ?_
    exact t_X14_strike_126 B hE a1 a3 a4 m hg
  · replace hg := (if_neg hc).symm.trans hg
    refine rf_seg B.1.1 [(.aload 4, 2), (.iload 5, 2), (.aload 0, 1)] (pc' := 113) (S' := ([(0, .ref 206), (1, .int a1), (3, .int a3), (4, .ref a4), (5, .int a5)], [.ref 206, .int a5, .ref a4], rf_MM w m)) (by decide +kernel) rfl trivial ?_
    obtain ⟨k3, hk3, hg⟩ := rf_o_some hg
    refine rf_d_getr B.1.1 14 29 (q := k3) rfl rfl hk3 (by decide +kernel) ?_
    obtain ⟨k4, hk4, hg⟩ := rf_o_some hg
    show rf_V 6 (rf_sh w) K cells slots 116 ([(0, .ref 206), (1, .int a1), (3, .int a3), (4, .ref a4), (5, .int a5)], [.ref k3, .int a5, .ref a4], rf_MM w m)
    refine rf_seg B.1.1 [(.iload 5, 2)] (pc' := 118) (S' := ([(0, .ref 206), (1, .int a1), (3, .int a3), (4, .ref a4), (5, .int a5)], [.int a5, .ref k3, .int a5, .ref a4], rf_MM w m)) (by decide +kernel) rfl trivial ?_
    obtain ⟨q5, hg⟩ := rf_g_some hg
    refine rf_d_iaload B.1.1 (rf_al_of hk4) (rf_in_of q5) (by decide +kernel) ?_
    show rf_V 6 (rf_sh w) K cells slots 119 ([(0, .ref 206), (1, .int a1), (3, .int a3), (4, .ref a4), (5, .int a5)], [.int (m.1 k3 (Int32.toNatClampNeg a5)), .int a5, .ref a4], rf_MM w m)
    obtain ⟨q6, hg⟩ := rf_g_some hg
    refine rf_d_iastore B.1.1 (rf_al_of hk0) (rf_in_of q6) (by decide +kernel) ?_
    show rf_V 6 (rf_sh w) K cells slots 120 ([(0, .ref 206), (1, .int a1), (3, .int a3), (4, .ref a4), (5, .int a5)], [], rf_MM w (rf_i m a4 (Int32.toNatClampNeg a5) (m.1 k3 (Int32.toNatClampNeg a5))))
    refine rf_seg B.1.1 [(.iinc 5 1, 3)] (pc' := 123) (S' := ([(5, .int (a5 + 1)), (0, .ref 206), (1, .int a1), (3, .int a3), (4, .ref a4)], [], rf_MM w (rf_i m a4 (Int32.toNatClampNeg a5) (m.1 k3 (Int32.toNatClampNeg a5))))) (by decide +kernel) rfl trivial ?_
    refine rf_goto B.1.1 (-25) 98 (by decide +kernel) ?_
    refine rf_few [1, 2, 3, 4, 0] rfl ?_
    exact hr98 a1 a3 a4 (a5 + 1) (rf_i m a4 (Int32.toNatClampNeg a5) (m.1 k3 (Int32.toNatClampNeg a5))) hg
theorem s_X14_strike_98 {w : rf_w} {K : rf_K} {r : Int32 × rf_w × rf_m} {cells slots mc ms n0 : Nat} {K0 : rf_K} (B : rf_GB 14 cX14_strike 6 6 mc ms n0 K0 (rf_sh w) K ∧ rf_wok w ∧ cells + 0 ≤ mc ∧ slots + 0 ≤ ms) (hE : rf_EndG (some .boolean) K0 n0 (rf_sh r.2.1) (some (.int r.1)) (rf_MM r.2.1 r.2.2) mc ms) (n : Nat) : ∀ (a1 : Int32) (a3 : Int32) (a4 : Nat) (a5 : Int32) (m : rf_m), g_X14_strike_98 w n a1 a3 a4 a5 m = some r → rf_V 6 (rf_sh w) K cells slots 98 ([(0, .ref 206), (1, .int a1), (3, .int a3), (4, .ref a4), (5, .int a5)], [], rf_MM w m) := by
  induction n with
  | zero => intro a1 a3 a4 a5 m hg; cases hg
  | succ n ih => intro a1 a3 a4 a5 m hg; exact s_X14_strike_98_b B hE ih a1 a3 a4 a5 m hg
def h_X14_strike_84 (w : rf_w) (a1 a3 : Int32) (m : rf_m) : Option (Int32 × rf_w × rf_m) := rf_o (w.2.2 1) fun a => rf_o (rf_al w a) fun n => rf_g (Nat.ble (2 * n) 3072) (rf_g (Nat.ble (w.1 + 2) 1000000) (g_X14_strike_98 (rf_w1 w (.inl (.int, 2 * n))) rf_fuel a1 a3 w.1 0 (rf_z m w.1)))
theorem rf_2n {n : Nat} (h : 2 * n ≤ 3072) : ¬ ((2 : Int32) * Int32.ofNat n) < 0 ∧ ((2 : Int32) * Int32.ofNat n).toNatClampNeg = 2 * n := by
  have e : ((2 : Int32) * Int32.ofNat n) = Int32.ofNat (2 * n) := by
    rw [Int32.ofNat_mul]
    rfl
  rw [e]
  have h2 : (Int32.ofNat (2 * n)).toInt = (2 * n : Nat) := Int32.toInt_ofNat_of_lt (by omega)
  constructor
  · rw [Int32.lt_iff_toInt_lt, h2]
    show ¬ ((2 * n : Nat) : Int) < 0
    omega
  · show (Int32.ofNat (2 * n)).toInt.toNat = 2 * n
    rw [h2]
    exact Int.toNat_natCast _
theorem t_X14_strike_84 {w : rf_w} {K : rf_K} {r : Int32 × rf_w × rf_m} {cells slots mc ms n0 : Nat} {K0 : rf_K} (B : rf_GB 14 cX14_strike 6 6 mc ms n0 K0 (rf_sh w) K ∧ rf_wok w ∧ cells + 1 ≤ mc ∧ slots + 3072 ≤ ms) (hE : rf_EndG (some .boolean) K0 n0 (rf_sh r.2.1) (some (.int r.1)) (rf_MM r.2.1 r.2.2) mc ms) (a1 a3 : Int32) (m : rf_m) (hg : h_X14_strike_84 w a1 a3 m = some r) : rf_V 6 (rf_sh w) K cells slots 84 ([(0, .ref 206), (1, .int a1), (3, .int a3)], [], rf_MM w m) := by
  unfold h_X14_strike_84 at hg
  obtain ⟨a, ha, hg⟩ := rf_o_some hg
  obtain ⟨n, hn0, hg⟩ := rf_o_some hg
  obtain ⟨q1, hg⟩ := rf_g_some hg
  obtain ⟨q2, hg⟩ := rf_g_some hg
  obtain ⟨B, hw, hcl, hsl⟩ := B
  have hn := hw.1.1
  have h3 : 2 * n ≤ 3072 := Nat.le_of_ble_eq_true q1
  have h4 : w.1 + 2 ≤ 1000000 := Nat.le_of_ble_eq_true q2
  obtain ⟨z1, z2⟩ := rf_2n h3
  refine rf_seg B.1 [(.iconst 2, 1), (.aload 0, 1)] (pc' := 86) (S' := ([(0, .ref 206), (1, .int a1), (3, .int a3)], [.ref 206, .int 2], rf_MM w m)) (by decide +kernel) rfl trivial ?_
  refine rf_d_getr B.1 14 29 (q := a) rfl rfl ha (by decide +kernel) ?_
  refine rf_d_alen B.1 (rf_al_of hn0) (by decide +kernel) ?_
  show rf_V 6 (rf_sh w) K cells slots 90 ([(0, .ref 206), (1, .int a1), (3, .int a3)], [.int (Int32.ofNat n), .int 2], rf_MM w m)
  refine rf_seg B.1 [(.imul, 1)] (pc' := 91) (S' := ([(0, .ref 206), (1, .int a1), (3, .int a3)], [.int (2 * Int32.ofNat n)], rf_MM w m)) (by decide +kernel) rfl trivial ?_
  refine rf_V_ag (M' := rf_MM w (rf_z m w.1)) ?_ ?_
  · intro k hk i
    have hk : k < w.1 := hk
    refine ⟨?_, ?_, rfl⟩
    · show (if w.1 ≤ k then (0 : Int32) else m.1 k i) = m.1 k i
      rw [if_neg (by omega)]
    · show (if w.1 ≤ k then (0 : Int64) else m.2 k i) = m.2 k i
      rw [if_neg (by omega)]
  refine rf_gbnewa B (rf_F_w hw m) hw.1.2 .int (2 * n) (rf_xt_w hn _) rfl .int rfl (by decide) z1 z2 (show 2 * n * 4 ≤ 536870912 by omega) (by show ([(0, Value.ref 206), (1, .int a1), (3, .int a3)] : rf_L).all (fun x => rf_nr w.1 x.2) = true; show (rf_nr w.1 (.ref 206) && (true && (true && true))) = true; rw [rf_nr_ref (show 206 < w.1 by omega)]; rfl) rfl (rf_mem 2 (by decide +kernel)) (by omega) (by omega) (by decide +kernel) (fun K B hF => ?_)
  show rf_V 6 (rf_sh (rf_w1 w (.inl (.int, 2 * n)))) K (cells + 1) (slots + 2 * n) 93 ([(0, .ref 206), (1, .int a1), (3, .int a3)], [.ref w.1], rf_MM w (rf_z m w.1))
  refine rf_V_ag (M' := rf_MM (rf_w1 w (.inl (.int, 2 * n))) (rf_z m w.1)) (rf_w1_Rt hw .int (2 * n) _) ?_
  refine rf_seg B.1 [(.astore 4, 2), (.iconst 0, 1), (.istore 5, 2)] (pc' := 98) (S' := ([(5, .int 0), (4, .ref w.1), (0, .ref 206), (1, .int a1), (3, .int a3)], [], rf_MM (rf_w1 w (.inl (.int, 2 * n))) (rf_z m w.1))) (by decide +kernel) rfl trivial ?_
  refine rf_few [2, 3, 4, 1, 0] rfl ?_
  exact s_X14_strike_98 (w := rf_w1 w (.inl (.int, 2 * n))) ⟨B, rf_w1_ok hw (by omega) .int (2 * n), by omega, by omega⟩ hE rf_fuel a1 a3 w.1 0 _ hg
def g_X14_strike_0 (w : rf_w) (a1 : Int32) (a2 : Int32) (a3 : Int32) (m : rf_m) : Option (Int32 × rf_w × rf_m) := rf_b (g_X14_isReading w (rf_i m 206 0 0) a1) fun y0 m0 => (if y0 = 0 then rf_b (g_X14_denied w m0 1) fun y1 m1 => rf_g (rf_01 y1) (some (y1, w, m1)) else rf_b (g_X14_isParty w m0 a2) fun y2 m2 => (if y2 = 0 then rf_b (g_X14_denied w m2 1) fun y12 m12 => rf_g (rf_01 y12) (some (y12, w, m12)) else rf_g (rf_in a2 8) ((if (m2.1 215 (Int32.toNatClampNeg a2)) = 0 then rf_b (g_X14_denied w m2 5) fun y4 m4 => rf_g (rf_01 y4) (some (y4, w, m4)) else rf_g (rf_in a1 1200) ((if (m2.1 221 (Int32.toNatClampNeg a1)) = ((-2)) then rf_b (g_X14_denied w m2 5) fun y6 m6 => rf_g (rf_01 y6) (some (y6, w, m6)) else rf_g (rf_in a1 1200) ((if (m2.1 216 (Int32.toNatClampNeg a1)) = a3 then rf_b (g_X14_denied w m2 5) fun y11 m11 => rf_g (rf_01 y11) (some (y11, w, m11)) else rf_g (rf_in a1 1200) (rf_o (w.2.2 1) fun k9 => rf_o (rf_al w k9) fun k10 => (if (3 * ((rf_i m2 216 (Int32.toNatClampNeg a1) (vp_nar .boolean a3)).1 206 18)) = (Int32.ofNat k10) then h_X14_strike_84 w a1 a3 (rf_i m2 216 (Int32.toNatClampNeg a1) (vp_nar .boolean a3)) else g_X14_strike_132 w a1 a3 (rf_i m2 216 (Int32.toNatClampNeg a1) (vp_nar .boolean a3))))))))))))
theorem s_X14_strike_0 {w : rf_w} {K : rf_K} {r : Int32 × rf_w × rf_m} {cells slots mc ms n0 : Nat} {K0 : rf_K} (B : rf_GB 14 cX14_strike 6 6 mc ms n0 K0 (rf_sh w) K ∧ rf_wok w ∧ cells + 1 ≤ mc ∧ slots + 3072 ≤ ms) (hE : rf_EndG (some .boolean) K0 n0 (rf_sh r.2.1) (some (.int r.1)) (rf_MM r.2.1 r.2.2) mc ms) (a1 : Int32) (a2 : Int32) (a3 : Int32) (m : rf_m) (hg : g_X14_strike_0 w a1 a2 a3 m = some r) : rf_V 6 (rf_sh w) K cells slots 0 ([(0, .ref 206), (1, .int a1), (2, .int a2), (3, .int a3)], [], rf_MM w m) := by
  unfold g_X14_strike_0 at hg
  refine rf_seg B.1.1 [(.aload 0, 1), (.iconst 0, 1), (.multianewarray 14 0, 3), (.aload 0, 1), (.iload 1, 1)] (pc' := 7) (S' := ([(0, .ref 206), (1, .int a1), (2, .int a2), (3, .int a3)], [.int a1, .ref 206], rf_MM w (rf_i m 206 0 0))) (by decide +kernel) rfl trivial ?_
  obtain ⟨y0, m0, hc0, hg⟩ := rf_b_some hg
  refine rf_callv B.1.1 (rf_gfit B.1 (Nat.le_trans (Nat.le_add_right _ _) B.2.2.1) (Nat.le_trans (Nat.le_add_right _ _) B.2.2.2)) j_X14_isReading (ci := 14) (As := [.int a1]) (rest := []) mw_X14_isReading (c_X14_isReading hc0) (by decide) rfl (by decide) lk_14_418 rfl rfl (Nat.le_of_ble_eq_true rfl) (by decide +kernel) ?_
  show rf_V 6 (rf_sh w) K cells slots 10 ([(0, .ref 206), (1, .int a1), (2, .int a2), (3, .int a3)], [.int y0], rf_MM w m0)
  refine rf_if_eq B.1.1 11 21 (by decide +kernel) (fun hc => ?_) (fun hc => ?_)
  · replace hg := (if_pos hc).symm.trans hg
    refine rf_seg B.1.1 [(.aload 0, 1), (.iconst 1, 1)] (pc' := 23) (S' := ([(0, .ref 206), (1, .int a1), (2, .int a2), (3, .int a3)], [.int 1, .ref 206], rf_MM w m0)) (by decide +kernel) rfl trivial ?_
    obtain ⟨y1, m1, hc1, hg⟩ := rf_b_some hg
    refine rf_callv B.1.1 (rf_gfit B.1 (Nat.le_trans (Nat.le_add_right _ _) B.2.2.1) (Nat.le_trans (Nat.le_add_right _ _) B.2.2.2)) j_X14_denied (ci := 14) (As := [.int 1]) (rest := []) mw_X14_denied (c_X14_denied hc1) (by decide) rfl (by decide) lk_14_342 rfl rfl (Nat.le_of_ble_eq_true rfl) (by decide +kernel) ?_
    show rf_V 6 (rf_sh w) K cells slots 26 ([(0, .ref 206), (1, .int a1), (2, .int a2), (3, .int a3)], [.int y1], rf_MM w m1)
    obtain ⟨q01, hg⟩ := rf_g_some hg
    obtain rfl := Option.some.inj hg
    exact rf_zretG B.1 (Nat.le_trans (Nat.le_add_right _ _) B.2.2.1) (Nat.le_trans (Nat.le_add_right _ _) B.2.2.2) hE (rf_01_of q01) (by decide +kernel)
  · replace hg := (if_neg hc).symm.trans hg
    refine rf_seg B.1.1 [(.aload 0, 1), (.iload 2, 1)] (pc' := 15) (S' := ([(0, .ref 206), (1, .int a1), (2, .int a2), (3, .int a3)], [.int a2, .ref 206], rf_MM w m0)) (by decide +kernel) rfl trivial ?_
    obtain ⟨y2, m2, hc2, hg⟩ := rf_b_some hg
    refine rf_callv B.1.1 (rf_gfit B.1 (Nat.le_trans (Nat.le_add_right _ _) B.2.2.1) (Nat.le_trans (Nat.le_add_right _ _) B.2.2.2)) j_X14_isParty (ci := 14) (As := [.int a2]) (rest := []) mw_X14_isParty (c_X14_isParty hc2) (by decide) rfl (by decide) lk_14_405 rfl rfl (Nat.le_of_ble_eq_true rfl) (by decide +kernel) ?_
    show rf_V 6 (rf_sh w) K cells slots 18 ([(0, .ref 206), (1, .int a1), (2, .int a2), (3, .int a3)], [.int y2], rf_MM w m2)
    refine rf_if_ne B.1.1 9 27 (by decide +kernel) (fun hc => ?_) (fun hc => ?_)
    · replace hg := (if_neg hc).symm.trans hg
      obtain ⟨q3, hg⟩ := rf_g_some hg
      refine rf_seg B.1.1 [(.aload 0, 1), (.invokeinterface 14 19, 3), (.iload 2, 1), (.baload, 1)] (pc' := 33) (S' := ([(0, .ref 206), (1, .int a1), (2, .int a2), (3, .int a3)], [.int (m2.1 215 (Int32.toNatClampNeg a2))], rf_MM w m2)) (by decide +kernel) rfl (rf_in_of q3) ?_
      refine rf_if_eq B.1.1 24 57 (by decide +kernel) (fun hc => ?_) (fun hc => ?_)
      · replace hg := (if_pos hc).symm.trans hg
        refine rf_seg B.1.1 [(.aload 0, 1), (.iconst 5, 1)] (pc' := 59) (S' := ([(0, .ref 206), (1, .int a1), (2, .int a2), (3, .int a3)], [.int 5, .ref 206], rf_MM w m2)) (by decide +kernel) rfl trivial ?_
        obtain ⟨y4, m4, hc4, hg⟩ := rf_b_some hg
        refine rf_callv B.1.1 (rf_gfit B.1 (Nat.le_trans (Nat.le_add_right _ _) B.2.2.1) (Nat.le_trans (Nat.le_add_right _ _) B.2.2.2)) j_X14_denied (ci := 14) (As := [.int 5]) (rest := []) mw_X14_denied (c_X14_denied hc4) (by decide) rfl (by decide) lk_14_342 rfl rfl (Nat.le_of_ble_eq_true rfl) (by decide +kernel) ?_
        show rf_V 6 (rf_sh w) K cells slots 62 ([(0, .ref 206), (1, .int a1), (2, .int a2), (3, .int a3)], [.int y4], rf_MM w m4)
        obtain ⟨q01, hg⟩ := rf_g_some hg
        obtain rfl := Option.some.inj hg
        exact rf_zretG B.1 (Nat.le_trans (Nat.le_add_right _ _) B.2.2.1) (Nat.le_trans (Nat.le_add_right _ _) B.2.2.2) hE (rf_01_of q01) (by decide +kernel)
      · replace hg := (if_neg hc).symm.trans hg
        obtain ⟨q5, hg⟩ := rf_g_some hg
        refine rf_seg B.1.1 [(.aload 0, 1), (.invokeinterface 14 25, 3), (.iload 1, 1), (.iaload, 1), (.iconst (-2), 2)] (pc' := 44) (S' := ([(0, .ref 206), (1, .int a1), (2, .int a2), (3, .int a3)], [.int ((-2)), .int (m2.1 221 (Int32.toNatClampNeg a1))], rf_MM w m2)) (by decide +kernel) rfl (rf_in_of q5) ?_
        refine rf_icmp_eq B.1.1 13 57 (by decide +kernel) (fun hc => ?_) (fun hc => ?_)
        · replace hg := (if_pos hc).symm.trans hg
          refine rf_seg B.1.1 [(.aload 0, 1), (.iconst 5, 1)] (pc' := 59) (S' := ([(0, .ref 206), (1, .int a1), (2, .int a2), (3, .int a3)], [.int 5, .ref 206], rf_MM w m2)) (by decide +kernel) rfl trivial ?_
          obtain ⟨y6, m6, hc6, hg⟩ := rf_b_some hg
          refine rf_callv B.1.1 (rf_gfit B.1 (Nat.le_trans (Nat.le_add_right _ _) B.2.2.1) (Nat.le_trans (Nat.le_add_right _ _) B.2.2.2)) j_X14_denied (ci := 14) (As := [.int 5]) (rest := []) mw_X14_denied (c_X14_denied hc6) (by decide) rfl (by decide) lk_14_342 rfl rfl (Nat.le_of_ble_eq_true rfl) (by decide +kernel) ?_
          show rf_V 6 (rf_sh w) K cells slots 62 ([(0, .ref 206), (1, .int a1), (2, .int a2), (3, .int a3)], [.int y6], rf_MM w m6)
          obtain ⟨q01, hg⟩ := rf_g_some hg
          obtain rfl := Option.some.inj hg
          exact rf_zretG B.1 (Nat.le_trans (Nat.le_add_right _ _) B.2.2.1) (Nat.le_trans (Nat.le_add_right _ _) B.2.2.2) hE (rf_01_of q01) (by decide +kernel)
        · replace hg := (if_neg hc).symm.trans hg
          obtain ⟨q7, hg⟩ := rf_g_some hg
          refine rf_seg B.1.1 [(.aload 0, 1), (.invokeinterface 14 20, 3), (.iload 1, 1), (.baload, 1), (.iload 3, 1)] (pc' := 54) (S' := ([(0, .ref 206), (1, .int a1), (2, .int a2), (3, .int a3)], [.int a3, .int (m2.1 216 (Int32.toNatClampNeg a1))], rf_MM w m2)) (by decide +kernel) rfl (rf_in_of q7) ?_
          refine rf_icmp_ne B.1.1 9 63 (by decide +kernel) (fun hc => ?_) (fun hc => ?_)
          · replace hg := (if_neg hc).symm.trans hg
            obtain ⟨q8, hg⟩ := rf_g_some hg
            refine rf_seg B.1.1 [(.aload 0, 1), (.invokeinterface 14 20, 3), (.iload 1, 1), (.iload 3, 1), (.bastore, 1), (.iconst 3, 1), (.aload 0, 1), (.invokeinterface 14 18, 3), (.imul, 1), (.aload 0, 1)] (pc' := 77) (S' := ([(0, .ref 206), (1, .int a1), (2, .int a2), (3, .int a3)], [.ref 206, .int (3 * ((rf_i m2 216 (Int32.toNatClampNeg a1) (vp_nar .boolean a3)).1 206 18))], rf_MM w (rf_i m2 216 (Int32.toNatClampNeg a1) (vp_nar .boolean a3)))) (by decide +kernel) rfl (rf_in_of q8) ?_
            obtain ⟨k9, hk9, hg⟩ := rf_o_some hg
            refine rf_d_getr B.1.1 14 29 (q := k9) rfl rfl hk9 (by decide +kernel) ?_
            obtain ⟨k10, hk10, hg⟩ := rf_o_some hg
            show rf_V 6 (rf_sh w) K cells slots 80 ([(0, .ref 206), (1, .int a1), (2, .int a2), (3, .int a3)], [.ref k9, .int (3 * ((rf_i m2 216 (Int32.toNatClampNeg a1) (vp_nar .boolean a3)).1 206 18))], rf_MM w (rf_i m2 216 (Int32.toNatClampNeg a1) (vp_nar .boolean a3)))
            refine rf_d_alen B.1.1 (rf_al_of hk10) (by decide +kernel) ?_
            show rf_V 6 (rf_sh w) K cells slots 81 ([(0, .ref 206), (1, .int a1), (2, .int a2), (3, .int a3)], [.int (Int32.ofNat k10), .int (3 * ((rf_i m2 216 (Int32.toNatClampNeg a1) (vp_nar .boolean a3)).1 206 18))], rf_MM w (rf_i m2 216 (Int32.toNatClampNeg a1) (vp_nar .boolean a3)))
            refine rf_icmp_ne B.1.1 51 132 (by decide +kernel) (fun hc => ?_) (fun hc => ?_)
            · replace hg := (if_neg hc).symm.trans hg
              refine rf_few [0, 1, 3] rfl ?_
              exact s_X14_strike_132 ⟨B.1, B.2.1, Nat.le_trans (Nat.le_add_right _ _) B.2.2.1, Nat.le_trans (Nat.le_add_right _ _) B.2.2.2⟩ hE a1 a3 (rf_i m2 216 (Int32.toNatClampNeg a1) (vp_nar .boolean a3)) hg
            · replace hg := (if_pos hc).symm.trans hg
              refine rf_few [0, 1, 3] rfl ?_
              exact t_X14_strike_84 B hE a1 a3 (rf_i m2 216 (Int32.toNatClampNeg a1) (vp_nar .boolean a3)) hg
          · replace hg := (if_pos hc).symm.trans hg
            refine rf_seg B.1.1 [(.aload 0, 1), (.iconst 5, 1)] (pc' := 59) (S' := ([(0, .ref 206), (1, .int a1), (2, .int a2), (3, .int a3)], [.int 5, .ref 206], rf_MM w m2)) (by decide +kernel) rfl trivial ?_
            obtain ⟨y11, m11, hc11, hg⟩ := rf_b_some hg
            refine rf_callv B.1.1 (rf_gfit B.1 (Nat.le_trans (Nat.le_add_right _ _) B.2.2.1) (Nat.le_trans (Nat.le_add_right _ _) B.2.2.2)) j_X14_denied (ci := 14) (As := [.int 5]) (rest := []) mw_X14_denied (c_X14_denied hc11) (by decide) rfl (by decide) lk_14_342 rfl rfl (Nat.le_of_ble_eq_true rfl) (by decide +kernel) ?_
            show rf_V 6 (rf_sh w) K cells slots 62 ([(0, .ref 206), (1, .int a1), (2, .int a2), (3, .int a3)], [.int y11], rf_MM w m11)
            obtain ⟨q01, hg⟩ := rf_g_some hg
            obtain rfl := Option.some.inj hg
            exact rf_zretG B.1 (Nat.le_trans (Nat.le_add_right _ _) B.2.2.1) (Nat.le_trans (Nat.le_add_right _ _) B.2.2.2) hE (rf_01_of q01) (by decide +kernel)
    · replace hg := (if_pos hc).symm.trans hg
      refine rf_seg B.1.1 [(.aload 0, 1), (.iconst 1, 1)] (pc' := 23) (S' := ([(0, .ref 206), (1, .int a1), (2, .int a2), (3, .int a3)], [.int 1, .ref 206], rf_MM w m2)) (by decide +kernel) rfl trivial ?_
      obtain ⟨y12, m12, hc12, hg⟩ := rf_b_some hg
      refine rf_callv B.1.1 (rf_gfit B.1 (Nat.le_trans (Nat.le_add_right _ _) B.2.2.1) (Nat.le_trans (Nat.le_add_right _ _) B.2.2.2)) j_X14_denied (ci := 14) (As := [.int 1]) (rest := []) mw_X14_denied (c_X14_denied hc12) (by decide) rfl (by decide) lk_14_342 rfl rfl (Nat.le_of_ble_eq_true rfl) (by decide +kernel) ?_
      show rf_V 6 (rf_sh w) K cells slots 26 ([(0, .ref 206), (1, .int a1), (2, .int a2), (3, .int a3)], [.int y12], rf_MM w m12)
      obtain ⟨q01, hg⟩ := rf_g_some hg
      obtain rfl := Option.some.inj hg
      exact rf_zretG B.1 (Nat.le_trans (Nat.le_add_right _ _) B.2.2.1) (Nat.le_trans (Nat.le_add_right _ _) B.2.2.2) hE (rf_01_of q01) (by decide +kernel)
abbrev j_X14_strike : rf_J := (14, yX14_strike, cX14_strike, 6, (some .boolean))
theorem mw_X14_strike : rf_mv j_X14_strike (rf_R 14) 3 := ⟨⟨(rf_mem 31 (by decide +kernel)), (rf_mem 31 (by decide +kernel)), (rf_mem 0 (by decide +kernel)), (rf_mem 31 (by decide +kernel))⟩, by decide +kernel, by decide⟩
theorem c_X14_strike {w : rf_w} (hw : rf_wok w) {m : rf_m} {a1 a2 a3 : Int32} {r : Int32 × rf_w × rf_m} (hg : g_X14_strike_0 w a1 a2 a3 m = some r) : rf_GCon j_X14_strike 6 1 3072 (rf_sh w) [.ref 206, .int a1, .int a2, .int a3] (rf_MM w m) (some (.int r.1)) (rf_sh r.2.1) (rf_MM r.2.1 r.2.2) := by
  refine rf_gcon j_X14_strike 6 1 3072 ⟨by decide +kernel, rfl, Or.inl rfl, Nat.le_of_ble_eq_true rfl⟩ (fun K B hE => ?_)
  exact s_X14_strike_0 (cells := 0) (slots := 0) ⟨B, hw, by decide, by decide⟩ hE a1 a2 a3 m hg
