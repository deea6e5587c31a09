/-! further rules and links (written by wip/tool/gen.py) -/
section RFT2
variable {o nL d : Nat} {cc : ByteArray} {sh : rf_Sh} {cells slots pc : Nat} {K : rf_K} {lv : rf_L} {st : List Value} {M : rf_M}
def rf_nb (ty : FieldType) (x : Int32) : Bool := decide (narrow ty (.int x) = .int x)
theorem rf_nret (C : rf_Ctx o cc nL d sh K) (ty : FieldType) {x : Int32} (hE : rf_End (some ty) K sh cells slots (some (.int x)) M) (hn : rf_nb ty x = true) (hd : decode cc pc = .ok (.ireturn, 1)) : rf_V nL sh K cells slots pc (lv, [.int x], M) := by
  obtain ⟨p, l, e, R, s, m, args, below, meth, c, D, ad, cad, A, Q⟩ := K
  obtain ⟨hx, hb, hml, hown, hts, hK, hT, hA, hlk, hXs, hdf, hdl, hwf⟩ := C
  obtain ⟨hr, rfl⟩ := hE
  intro H locs ls hPw hD hS hl
  exact W.zret hx hb hr (of_decide_eq_true hn) (fun t ht hW => ⟨rfl, by rw [ht]; exact hPw, hS.F ht⟩) hS.2.2 hd hlk
/-- a call of a method of a String constant -/
theorem rf_callz (C : rf_Ctx o cc nL d sh K) (hf : rf_Fit cells slots K) (J : rf_J) {dc n idx a : Nat} {As rest stk : List Value} {v : Option Value} {M' : rf_M} (hm : rf_mv J (rf_own 24) n) (hM : rf_Con J dc sh (.ref a :: As) M v M') (hdc : dc < d) (ha : rf_isS a = true) (hlink : Cond.methodLink (rf_own o) idx J.2.1 ∈ rf_WS) (hn : As.length = n) (hst : stk = As.reverse ++ .ref a :: rest) (hrest : (rest.map fun v => v.category).sum ≤ 8) (hd : decode cc pc = .ok (.invokevirtual idx, 3))
    (k : rf_V nL sh K cells slots (pc + 3) (lv, v.toList ++ rest, M')) : rf_V nL sh K cells slots pc (lv, stk, M) := by
  subst hst
  obtain ⟨p, l, e, R, s, m, args, below, meth, c, D, ad, cad, A, Q⟩ := K
  have C0 := C
  obtain ⟨hx, hb, hml, hown, hts, hK, hT, hA, hlk, hXs, hdf, hdl, hwf⟩ := C
  obtain ⟨yo, y, yc, yn, yr⟩ := J
  obtain ⟨⟨m1, m2, m3, m4⟩, m5, m6⟩ := hm
  intro H locs ls hPw hD hS hl
  have e0 : (As.reverse ++ Value.ref a :: rest).map (rf_cv ad) = (As.map (rf_cv ad)).reverse ++ Value.ref (ad a) :: rest.map (rf_cv ad) := by simp [rf_cv]
  have e1 : ((rest.map (rf_cv ad)).map fun v => v.category).sum ≤ 8 := by
    rw [List.map_map]
    simpa [Function.comp_def, rf_cat] using hrest
  have m6 : yn ≤ 45 := m6
  have hrec : ∃ cellB : Cell, H[ad a]? = some cellB ∧ cellB.vm.isStatics = false ∧ s.vm.findClass (rf_own 24) = some cellB.cls := by
    obtain ⟨q, -, -, h2, -⟩ := rf_X_str hXs ha
    obtain ⟨cell, g1, g2, g3, -⟩ := h2.kept hS.2.1
    exact ⟨cell, g1, g2, g3⟩
  show W p l e R s m args below meth c H locs cells slots Q (F0 m pc ls ((As.reverse ++ Value.ref a :: rest).map (rf_cv ad)))
  rw [e0]
  have hw : CallW R s args (rf_own o) (rf_own 24) idx y yc yn yr (.code y yc yn yr :: rf_WS) (rf_rm dc 0 0) 0 0 n := ⟨callB_of n hts (rf_goodJ m4) rfl rfl rfl (hts _ m3) (hts _ hlink) m5 ⟨by show dc + 1 ≤ _; omega, by show 8 + (yn + 11) + 64 * dc ≤ _; omega⟩, hts _ m1, hts _ m2⟩
  exact rf_after (Q := Q) (M := M) hA hD hS hl (va_runV (As := As.map (rf_cv ad)) (rest := rest.map (rf_cv ad)) ⟨hx, hb, hml, hown, hts⟩ (hM l D ad cad H.size) hw ⟨rf_In_blind, hrec, rf_pre C0 hPw hD hS _⟩ rfl (by simpa using hn) hl.1 rfl (lv_room e1) hd hf) k
theorem rf_zz : True := trivial
end RFT2
abbrev j_J3_checkIndex : rf_J := (31, yJ3_checkIndex_8e157, cJ3_checkIndex_8e157, 3, (some .int))
theorem mw_J3_checkIndex : rf_ms j_J3_checkIndex 3 := ⟨⟨rf_mem 42 (by decide +kernel), rf_mem 40 (by decide +kernel), rf_mem 42 (by decide +kernel)⟩, by decide +kernel, by decide⟩
theorem c_J3_checkIndex {w : rf_w} {m : rf_m} {a0 a1 : Int32} {v : Value} (hv : v = .null ∨ v = .ref 3000001) (h0 : ¬ a0 < 0) (h1 : a0 < a1) : rf_Con j_J3_checkIndex 1 (rf_sh w) [.int a0, .int a1, v] (rf_MM w m) (some (.int a0)) (rf_MM w m) := by
  refine rf_con j_J3_checkIndex 1 ⟨by decide +kernel, rfl, by rcases hv with rfl | rfl <;> exact Nat.le_of_ble_eq_true rfl⟩ (fun K C hE => ?_)
  show rf_V 3 (rf_sh w) K 0 0 0 ([(0, .int a0), (1, .int a1), (2, v)], [], rf_MM w m)
  refine rf_few [0, 1] (lv' := [(0, .int a0), (1, .int a1)]) rfl ?_
  refine rf_seg C [(.iload 0, 1)] (pc' := 1) (S' := ([(0, .int a0), (1, .int a1)], [.int a0], rf_MM w m)) (by decide +kernel) rfl trivial ?_
  refine rf_if_lt C 8 9 (by decide +kernel) (fun hc => absurd hc h0) (fun _ => ?_)
  refine rf_seg C [(.iload 0, 1), (.iload 1, 1)] (pc' := 6) (S' := ([(0, .int a0), (1, .int a1)], [.int a1, .int a0], rf_MM w m)) (by decide +kernel) rfl trivial ?_
  refine rf_icmp_lt C 10 16 (by decide +kernel) (fun _ => ?_) (fun hc => absurd h1 hc)
  refine rf_seg C [(.iload 0, 1)] (pc' := 17) (S' := ([(0, .int a0), (1, .int a1)], [.int a0], rf_MM w m)) (by decide +kernel) rfl trivial ?_
  exact rf_iret C hE (by decide +kernel)
abbrev j_J0_checkIndex : rf_J := (24, yJ0_checkIndex_df160, cJ0_checkIndex_df160, 2, none)
theorem mw_J0_checkIndex : rf_ms j_J0_checkIndex 2 := ⟨⟨rf_mem 42 (by decide +kernel), rf_mem 38 (by decide +kernel), rf_mem 42 (by decide +kernel)⟩, by decide +kernel, by decide⟩
def g_J0_checkIndex (_ : rf_w) (m : rf_m) (a0 a1 : Int32) : Option rf_m := if a0 < 0 then none else if a0 < a1 then some m else none
theorem c_J0_checkIndex {w : rf_w} {m : rf_m} {a0 a1 : Int32} {r : rf_m} (hg : g_J0_checkIndex w m a0 a1 = some r) : rf_Con j_J0_checkIndex 2 (rf_sh w) [.int a0, .int a1] (rf_MM w m) none (rf_MM w r) := by
  unfold g_J0_checkIndex at hg
  by_cases h0 : a0 < 0
  · rw [if_pos h0] at hg; cases hg
  · rw [if_neg h0] at hg
    by_cases h1 : a0 < a1
    · rw [if_pos h1] at hg
      obtain rfl := Option.some.inj hg
      refine rf_con j_J0_checkIndex 2 ⟨by decide +kernel, rfl, Nat.le_of_ble_eq_true rfl⟩ (fun K C hE => ?_)
      show rf_V 2 (rf_sh w) K 0 0 0 ([(0, .int a0), (1, .int a1)], [], rf_MM w m)
      refine rf_seg C [(.iload 0, 1), (.iload 1, 1)] (pc' := 2) (S' := ([(0, .int a0), (1, .int a1)], [.int a1, .int a0], rf_MM w m)) (by decide +kernel) rfl trivial ?_
      refine rf_s_fmt C (idx := 1053) (rf_mem 40 (by decide +kernel)) (by decide +kernel) ?_ ?_
      · refine rf_calls C rf_fit0 j_J3_checkIndex (idx := 1059) (As := [.int a0, .int a1, .null]) (rest := []) mw_J3_checkIndex (c_J3_checkIndex (Or.inl rfl) h0 h1) (by decide) (rf_mem 42 (by decide +kernel)) rfl rfl (Nat.le_of_ble_eq_true rfl) (by decide +kernel) ?_
        show rf_V 2 (rf_sh w) K 0 0 8 ([(0, .int a0), (1, .int a1)], [.int a0], rf_MM w m)
        refine rf_seg C [(.pop, 1)] (pc' := 9) (S' := ([(0, .int a0), (1, .int a1)], [], rf_MM w m)) (by decide +kernel) rfl trivial ?_
        exact rf_vret C hE (by decide +kernel)
      · refine rf_calls C rf_fit0 j_J3_checkIndex (idx := 1059) (As := [.int a0, .int a1, .ref 3000001]) (rest := []) mw_J3_checkIndex (c_J3_checkIndex (Or.inr rfl) h0 h1) (by decide) (rf_mem 42 (by decide +kernel)) rfl rfl (Nat.le_of_ble_eq_true rfl) (by decide +kernel) ?_
        show rf_V 2 (rf_sh w) K 0 0 8 ([(0, .int a0), (1, .int a1)], [.int a0], rf_MM w m)
        refine rf_seg C [(.pop, 1)] (pc' := 9) (S' := ([(0, .int a0), (1, .int a1)], [], rf_MM w m)) (by decide +kernel) rfl trivial ?_
        exact rf_vret C hE (by decide +kernel)
    · rw [if_neg h1] at hg; cases hg
section RFT2
end RFT2
theorem lk_4_80 : Cond.methodLink (rf_own 4) 80 yX4_extend ∈ rf_WS := rf_mem 78 (by decide +kernel)
theorem lk_4_84 : Cond.methodLink (rf_own 4) 84 arraycopyName ∈ rf_WS := rf_mem 76 (by decide +kernel)
theorem lk_4_153 : Cond.methodLink (rf_own 4) 153 yX4_isBetter ∈ rf_WS := rf_mem 78 (by decide +kernel)
theorem lk_4_157 : Cond.methodLink (rf_own 4) 157 yX4_isHopeless ∈ rf_WS := rf_mem 78 (by decide +kernel)
theorem lk_4_160 : Cond.methodLink (rf_own 4) 160 yX4_placeOf ∈ rf_WS := rf_mem 78 (by decide +kernel)
theorem lk_4_163 : Cond.methodLink (rf_own 4) 163 yX4_carriedLeast ∈ rf_WS := rf_mem 79 (by decide +kernel)
theorem lk_4_167 : Cond.methodLink (rf_own 4) 167 yX4_carriedMost ∈ rf_WS := rf_mem 79 (by decide +kernel)
theorem lk_8_58 : Cond.methodLink (rf_own 8) 58 yX8_next ∈ rf_WS := rf_mem 37 (by decide +kernel)
theorem lk_8_61 : Cond.methodLink (rf_own 8) 61 yX8_takeToken ∈ rf_WS := rf_mem 41 (by decide +kernel)
theorem lk_8_64 : Cond.methodLink (rf_own 8) 64 yX8_takeAct ∈ rf_WS := rf_mem 41 (by decide +kernel)
theorem lk_8_67 : Cond.methodLink (rf_own 8) 67 yX8_takeIf ∈ rf_WS := rf_mem 43 (by decide +kernel)
theorem lk_8_70 : Cond.methodLink (rf_own 8) 70 yX8_takeOne ∈ rf_WS := rf_mem 43 (by decide +kernel)
theorem lk_8_73 : Cond.methodLink (rf_own 8) 73 yX8_takeOperand ∈ rf_WS := rf_mem 44 (by decide +kernel)
theorem lk_8_76 : Cond.methodLink (rf_own 8) 76 yX8_takeSign ∈ rf_WS := rf_mem 44 (by decide +kernel)
theorem lk_8_79 : Cond.methodLink (rf_own 8) 79 yX8_takeJoint ∈ rf_WS := rf_mem 45 (by decide +kernel)
theorem lk_8_82 : Cond.methodLink (rf_own 8) 82 yX8_actHere ∈ rf_WS := rf_mem 41 (by decide +kernel)
theorem lk_8_92 : Cond.methodLink (rf_own 8) 92 yX8_isJoint ∈ rf_WS := rf_mem 43 (by decide +kernel)
theorem lk_8_102 : Cond.methodLink (rf_own 8) 102 yX8_isWord ∈ rf_WS := rf_mem 42 (by decide +kernel)
theorem lk_8_108 : Cond.methodLink (rf_own 8) 108 yX8_takeNot ∈ rf_WS := rf_mem 43 (by decide +kernel)
theorem lk_8_111 : Cond.methodLink (rf_own 8) 111 yX8_takeBracket ∈ rf_WS := rf_mem 44 (by decide +kernel)
theorem lk_8_117 : Cond.methodLink (rf_own 8) 117 yX8_nameHere ∈ rf_WS := rf_mem 44 (by decide +kernel)
theorem lk_8_133 : Cond.methodLink (rf_own 8) 133 yX8_endSum ∈ rf_WS := rf_mem 45 (by decide +kernel)
theorem lk_8_154 : Cond.methodLink (rf_own 8) 154 yX8_takeWord ∈ rf_WS := rf_mem 37 (by decide +kernel)
theorem lk_8_160 : Cond.methodLink (rf_own 8) 160 yX8_takeWhole ∈ rf_WS := rf_mem 37 (by decide +kernel)
theorem lk_8_165 : Cond.methodLink (rf_own 8) 165 yJ0_indexOf_0f7a4 ∈ rf_WS := rf_mem 38 (by decide +kernel)
theorem lk_8_170 : Cond.methodLink (rf_own 8) 170 yJ0_length_8abf5 ∈ rf_WS := rf_mem 42 (by decide +kernel)
theorem lk_8_172 : Cond.methodLink (rf_own 8) 172 yJ0_charAt_5068e ∈ rf_WS := rf_mem 42 (by decide +kernel)
theorem lk_11_235 : Cond.methodLink (rf_own 11) 235 yX3_keptAt ∈ rf_WS := rf_mem 34 (by decide +kernel)
theorem lk_11_252 : Cond.methodLink (rf_own 11) 252 yX8_parse ∈ rf_WS := rf_mem 36 (by decide +kernel)
theorem lk_11_267 : Cond.methodLink (rf_own 11) 267 yX9_add ∈ rf_WS := rf_mem 45 (by decide +kernel)
theorem lk_11_402 : Cond.methodLink (rf_own 11) 402 yX4_seek ∈ rf_WS := rf_mem 76 (by decide +kernel)
theorem lk_11_420 : Cond.methodLink (rf_own 11) 420 yX4_apartFrom ∈ rf_WS := rf_mem 82 (by decide +kernel)
theorem lk_14_496 : Cond.methodLink (rf_own 14) 496 yJ0_length_8abf5 ∈ rf_WS := rf_mem 48 (by decide +kernel)
theorem lk_14_504 : Cond.methodLink (rf_own 14) 504 yJ0_charAt_5068e ∈ rf_WS := rf_mem 48 (by decide +kernel)
theorem lk_14_535 : Cond.methodLink (rf_own 14) 535 yX14_wordOf ∈ rf_WS := rf_mem 48 (by decide +kernel)
theorem lk_14_541 : Cond.methodLink (rf_own 14) 541 yX14_isWord ∈ rf_WS := rf_mem 48 (by decide +kernel)
theorem lk_14_563 : Cond.methodLink (rf_own 14) 563 yX14_isKept ∈ rf_WS := rf_mem 48 (by decide +kernel)
theorem lk_14_578 : Cond.methodLink (rf_own 14) 578 yX14_readSum ∈ rf_WS := rf_mem 49 (by decide +kernel)
theorem lk_14_584 : Cond.methodLink (rf_own 14) 584 yX14_readAny ∈ rf_WS := rf_mem 50 (by decide +kernel)
theorem lk_14_587 : Cond.methodLink (rf_own 14) 587 yX14_readAll ∈ rf_WS := rf_mem 50 (by decide +kernel)
theorem lk_14_590 : Cond.methodLink (rf_own 14) 590 yX12_put ∈ rf_WS := rf_mem 49 (by decide +kernel)
theorem lk_14_593 : Cond.methodLink (rf_own 14) 593 yX14_readOne ∈ rf_WS := rf_mem 50 (by decide +kernel)
theorem lk_14_599 : Cond.methodLink (rf_own 14) 599 yX14_readTerm ∈ rf_WS := rf_mem 49 (by decide +kernel)
theorem lk_14_602 : Cond.methodLink (rf_own 14) 602 yX14_readPart ∈ rf_WS := rf_mem 49 (by decide +kernel)
theorem lk_14_617 : Cond.methodLink (rf_own 14) 617 yX14_nameHere ∈ rf_WS := rf_mem 49 (by decide +kernel)
theorem lk_14_626 : Cond.methodLink (rf_own 14) 626 yX14_reads ∈ rf_WS := rf_mem 47 (by decide +kernel)
theorem lk_14_825 : Cond.methodLink (rf_own 14) 825 yX14_isBetter ∈ rf_WS := rf_mem 80 (by decide +kernel)
theorem lk_14_834 : Cond.methodLink (rf_own 14) 834 yX14_opposite ∈ rf_WS := rf_mem 81 (by decide +kernel)
theorem lk_14_838 : Cond.methodLink (rf_own 14) 838 yX14_chains ∈ rf_WS := rf_mem 80 (by decide +kernel)
theorem lk_14_851 : Cond.methodLink (rf_own 14) 851 yX14_chainOf ∈ rf_WS := rf_mem 79 (by decide +kernel)
theorem lk_24_335 : Cond.methodLink (rf_own 24) 335 yJ0_coder_7d493 ∈ rf_WS := rf_mem 38 (by decide +kernel)
theorem lk_24_492 : Cond.methodLink (rf_own 24) 492 yJ0_isLatin1_aae02 ∈ rf_WS := rf_mem 38 (by decide +kernel)
theorem lk_24_495 : Cond.methodLink (rf_own 24) 495 yJ1_charAt_3b067 ∈ rf_WS := rf_mem 42 (by decide +kernel)
theorem lk_24_505 : Cond.methodLink (rf_own 24) 505 yJ0_length_8abf5 ∈ rf_WS := rf_mem 38 (by decide +kernel)
theorem lk_24_633 : Cond.methodLink (rf_own 24) 633 yJ0_indexOf_7cf53 ∈ rf_WS := rf_mem 38 (by decide +kernel)
theorem lk_24_637 : Cond.methodLink (rf_own 24) 637 yJ1_indexOf_4cfef ∈ rf_WS := rf_mem 39 (by decide +kernel)
theorem lk_25_9 : Cond.methodLink (rf_own 25) 9 yJ0_checkIndex_df160 ∈ rf_WS := rf_mem 42 (by decide +kernel)
theorem lk_25_38 : Cond.methodLink (rf_own 25) 38 Lib.Math.min.name ∈ rf_WS := rf_mem 39 (by decide +kernel)
theorem lk_25_88 : Cond.methodLink (rf_own 25) 88 yJ1_canEncode_9a6ad ∈ rf_WS := rf_mem 39 (by decide +kernel)
theorem lk_25_92 : Cond.methodLink (rf_own 25) 92 Lib.Math.max.name ∈ rf_WS := rf_mem 39 (by decide +kernel)
theorem lk_25_95 : Cond.methodLink (rf_own 25) 95 yJ1_indexOfChar_4cfef ∈ rf_WS := rf_mem 39 (by decide +kernel)
