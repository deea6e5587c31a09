/-! methods that may throw (written by wip/tool/gen.py) -/
def rf_rx (w : rf_w) (r : rf_m ⊕ rf_m) : rf_Rs := match r with
  | .inl m => .inl (none, rf_MM w m)
  | .inr m => .inr (233, rf_MM w m)
def rf_bx {β : Type} (o : Option (rf_m ⊕ rf_m)) (k : rf_m → Option (β ⊕ rf_m)) : Option (β ⊕ rf_m) := match o with
  | none => none
  | some (.inl m) => k m
  | some (.inr m) => some (.inr m)
theorem rf_bx_some {β : Type} {o : Option (rf_m ⊕ rf_m)} {k : rf_m → Option (β ⊕ rf_m)} {r : β ⊕ rf_m} (h : rf_bx o k = some r) : (∃ m', o = some (.inl m') ∧ k m' = some r) ∨ (∃ m', o = some (.inr m') ∧ .inr m' = r) := by
  cases o with
  | none => cases h
  | some q => cases q with
    | inl m => exact Or.inl ⟨m, rfl, h⟩
    | inr m => exact Or.inr ⟨m, rfl, Option.some.inj h⟩
theorem rf_aret {o nL d : Nat} {cc : ByteArray} {sh : rf_Sh} {cells slots pc : Nat} {K : rf_K} {lv : rf_L} {M : rf_M} (C : rf_Ctx o cc nL d sh K) {k : Nat} {cn : String} (hE : rf_End (some (.object cn)) K sh cells slots (some (.ref k)) M) (hd : decode cc pc = .ok (.areturn, 1)) : rf_V nL sh K cells slots pc (lv, [.ref k], M) := by
  obtain ⟨p, l, e, R, s, m, args, below, meth, c, D, ad, cad, A, Q⟩ := K
  obtain ⟨hx, hb, hml, hown, hts, hK, hT, hA, hlk, hXs, hdf, hdl, hwf⟩ := C
  obtain ⟨hr, rfl⟩ := hE
  intro H locs ls hPw hD hS hl
  exact W.aret hx hb hr (Or.inl ⟨cn, rfl⟩) (Or.inr ⟨ad k, rfl⟩) (fun t ht hW => ⟨rfl, by rw [ht]; exact hPw, hS.F ht⟩) hS.2.2 hd hlk
theorem lk_14_566 : Cond.methodLink (rf_own 14) 566 yX14_stop ∈ rf_WS := rf_mem 117 (by decide +kernel)
abbrev j_X14_stop : rf_J := (14, yX14_stop, cX14_stop, 2, (some (.object "GreatArcModel$Stop")))
theorem mw_X14_stop : rf_mv j_X14_stop (rf_R 14) 1 := ⟨⟨rf_mem 117 (by decide +kernel), rf_mem 118 (by decide +kernel), rf_mem 0 (by decide +kernel), rf_mem 117 (by decide +kernel)⟩, by decide +kernel, by decide⟩
abbrev j_X14_readPart : rf_J := (14, yX14_readPart, cX14_readPart, 1, none)
theorem mw_X14_readPart : rf_mv j_X14_readPart (rf_R 14) 0 := ⟨⟨rf_mem 49 (by decide +kernel), rf_mem 49 (by decide +kernel), rf_mem 0 (by decide +kernel), rf_mem 49 (by decide +kernel)⟩, by decide +kernel, by decide⟩
abbrev j_X14_readTerm : rf_J := (14, yX14_readTerm, cX14_readTerm, 1, none)
theorem mw_X14_readTerm : rf_mv j_X14_readTerm (rf_R 14) 0 := ⟨⟨rf_mem 49 (by decide +kernel), rf_mem 49 (by decide +kernel), rf_mem 0 (by decide +kernel), rf_mem 49 (by decide +kernel)⟩, by decide +kernel, by decide⟩
abbrev j_X14_readSum : rf_J := (14, yX14_readSum, cX14_readSum, 2, none)
theorem mw_X14_readSum : rf_mv j_X14_readSum (rf_R 14) 0 := ⟨⟨rf_mem 49 (by decide +kernel), rf_mem 49 (by decide +kernel), rf_mem 0 (by decide +kernel), rf_mem 49 (by decide +kernel)⟩, by decide +kernel, by decide⟩
abbrev j_X14_readOne : rf_J := (14, yX14_readOne, cX14_readOne, 3, none)
theorem mw_X14_readOne : rf_mv j_X14_readOne (rf_R 14) 0 := ⟨⟨rf_mem 50 (by decide +kernel), rf_mem 50 (by decide +kernel), rf_mem 0 (by decide +kernel), rf_mem 50 (by decide +kernel)⟩, by decide +kernel, by decide⟩
abbrev j_X14_readAll : rf_J := (14, yX14_readAll, cX14_readAll, 1, none)
theorem mw_X14_readAll : rf_mv j_X14_readAll (rf_R 14) 0 := ⟨⟨rf_mem 50 (by decide +kernel), rf_mem 50 (by decide +kernel), rf_mem 0 (by decide +kernel), rf_mem 50 (by decide +kernel)⟩, by decide +kernel, by decide⟩
abbrev j_X14_readAny : rf_J := (14, yX14_readAny, cX14_readAny, 1, none)
theorem mw_X14_readAny : rf_mv j_X14_readAny (rf_R 14) 0 := ⟨⟨rf_mem 50 (by decide +kernel), rf_mem 50 (by decide +kernel), rf_mem 0 (by decide +kernel), rf_mem 50 (by decide +kernel)⟩, by decide +kernel, by decide⟩
abbrev j_X14_reads : rf_J := (14, yX14_reads, cX14_reads, 3, none)
theorem mw_X14_reads : rf_mv j_X14_reads (rf_R 14) 0 := ⟨⟨rf_mem 47 (by decide +kernel), rf_mem 47 (by decide +kernel), rf_mem 0 (by decide +kernel), rf_mem 47 (by decide +kernel)⟩, by decide +kernel, by decide⟩
-- X14_stop
def g_X14_stop (w : rf_w) (m : rf_m) (a1 : Int32) : Option (rf_m) := some (rf_i (rf_i m 233 6 a1) 233 7 ((rf_i m 233 6 a1).1 206 48))
theorem c_X14_stop {w : rf_w} {m : rf_m} {a1 : Int32} {r : rf_m} (hg : g_X14_stop w m a1 = some r) : rf_Con j_X14_stop 1 (rf_sh w) [.ref 206, .int a1] (rf_MM w m) (some (.ref 233)) (rf_MM w r) := by
  refine rf_con j_X14_stop 1 ⟨by decide +kernel, rfl, Nat.le_of_ble_eq_true rfl⟩ (fun K C hE => ?_)
  unfold g_X14_stop at hg
  show rf_V 2 (rf_sh w) K 0 0 0 ([(0, .ref 206), (1, .int a1)], [], rf_MM w m)
  refine rf_seg C [(.aload 0, 1), (.invokeinterface 14 42, 3), (.iload 1, 1), (.multianewarray 13 6, 3), (.aload 0, 1), (.invokeinterface 14 42, 3), (.aload 0, 1), (.invokeinterface 14 48, 3), (.multianewarray 13 7, 3), (.aload 0, 1), (.invokeinterface 14 42, 3)] (pc' := 23) (S' := ([(0, .ref 206), (1, .int a1)], [.ref 233], rf_MM w (rf_i (rf_i m 233 6 a1) 233 7 ((rf_i m 233 6 a1).1 206 48)))) (by decide +kernel) rfl trivial ?_
  obtain rfl := Option.some.inj hg
  exact rf_aret C hE (by decide +kernel)
-- X14_readPart
def g_X14_readPart_93 (w : rf_w) (s0 : Nat) (s1 : Int32) (m : rf_m) : Option (rf_m ⊕ rf_m) := rf_g (rf_isO w s0 12) (rf_g (rf_isR w s0 5 (s0 + 1)) (rf_g (rf_isA w (s0 + 1) .int 300) (rf_g (rf_isR w s0 6 (s0 + 2)) (rf_g (rf_isA w (s0 + 2) .int 300) ((if (m.1 206 47) = 3 then rf_bv (g_X12_put w m s0 s1 (m.1 206 50)) fun m8 => rf_bv (g_X14_next w m8) fun m9 => some (.inl m9) else rf_b (g_X14_nameHere w m) fun y5 m5 => rf_bv (g_X12_put w m5 s0 s1 y5) fun m6 => rf_bv (g_X14_next w m6) fun m7 => some (.inl m7)))))))
def g_X14_readPart_51 (w : rf_w) (m : rf_m) : Option (rf_m ⊕ rf_m) := (if (m.1 206 52) = 30 then rf_bv (g_X14_stop w m 3) fun m6 => some (.inr m6) else rf_o (w.2.2 0) fun k0 => rf_g (rf_isO w k0 12) (rf_g (rf_isR w k0 5 (k0 + 1)) (rf_g (rf_isA w (k0 + 1) .int 300) (rf_g (rf_isR w k0 6 (k0 + 2)) (rf_g (rf_isA w (k0 + 2) .int 300) ((if ((rf_i m 206 52 ((m.1 206 52) + 1)).1 206 47) = 3 then g_X14_readPart_93 w k0 0 (rf_i m 206 52 ((m.1 206 52) + 1)) else g_X14_readPart_93 w k0 1 (rf_i m 206 52 ((m.1 206 52) + 1)))))))))
def g_X14_readPart_16 (w : rf_w) (m : rf_m) : Option (rf_m ⊕ rf_m) := rf_b (g_X14_isKept w m) fun y0 m0 => (if y0 = 0 then (if (m0.1 206 47) = 2 then rf_b (g_X14_nameHere w m0) fun y1 m1 => (if y1 = ((-1)) then rf_bv (g_X14_stop w m1 2) fun m2 => some (.inr m2) else g_X14_readPart_51 w m1) else g_X14_readPart_51 w m0) else rf_bv (g_X14_stop w m0 1) fun m3 => some (.inr m3))
def g_X14_readPart (w : rf_w) (m : rf_m) : Option (rf_m ⊕ rf_m) := (if (m.1 206 47) = 3 then g_X14_readPart_16 w m else (if (m.1 206 47) = 2 then g_X14_readPart_16 w m else rf_bv (g_X14_stop w m 1) fun m0 => some (.inr m0)))
theorem s_X14_readPart_93 {w : rf_w} {K : rf_K} {r : rf_m ⊕ rf_m} (C : rf_Ctx 14 cX14_readPart 1 8 (rf_sh w) K) (hE : rf_EndX none K (rf_sh w) (rf_rx w r)) (s0 : Nat) (s1 : Int32) (m : rf_m) (hg : g_X14_readPart_93 w s0 s1 m = some r) : rf_V 1 (rf_sh w) K 0 0 93 ([(0, .ref 206)], [.int s1, .ref s0], rf_MM w m) := by
  unfold g_X14_readPart_93 at hg
  obtain ⟨q0, hg⟩ := rf_g_some hg
  obtain ⟨q1, hg⟩ := rf_g_some hg
  obtain ⟨q2, hg⟩ := rf_g_some hg
  obtain ⟨q3, hg⟩ := rf_g_some hg
  obtain ⟨q4, hg⟩ := rf_g_some hg
  refine rf_seg C [(.aload 0, 1), (.invokeinterface 14 47, 3), (.iconst 3, 1)] (pc' := 98) (S' := ([(0, .ref 206)], [.int 3, .int (m.1 206 47), .int s1, .ref s0], rf_MM w m)) (by decide +kernel) rfl trivial ?_
  refine rf_icmp_ne C 10 108 (by decide +kernel) (fun hc => ?_) (fun hc => ?_)
  · replace hg := (if_neg hc).symm.trans hg
    refine rf_seg C [(.aload 0, 1)] (pc' := 109) (S' := ([(0, .ref 206)], [.ref 206, .int s1, .ref s0], rf_MM w m)) (by decide +kernel) rfl trivial ?_
    obtain ⟨y5, m5, hc5, hg⟩ := rf_b_some hg
    refine rf_callv C rf_fit0 j_X14_nameHere (ci := 14) (As := []) (rest := [.int s1, .ref s0]) mw_X14_nameHere (c_X14_nameHere hc5) (by decide) rfl (by decide) lk_14_617 rfl rfl (Nat.le_of_ble_eq_true rfl) (by decide +kernel) ?_
    show rf_V 1 (rf_sh w) K 0 0 112 ([(0, .ref 206)], [.int y5, .int s1, .ref s0], rf_MM w m5)
    obtain ⟨m6, hc6, hg⟩ := rf_bv_some hg
    refine rf_callv C rf_fit0 j_X12_put (ci := 12) (As := [.int s1, .int y5]) (rest := []) mw_X12_put (c_X12_put hc6) (by decide) (rf_isO_of q0) (by decide) lk_14_590 rfl rfl (Nat.le_of_ble_eq_true rfl) (by decide +kernel) ?_
    show rf_V 1 (rf_sh w) K 0 0 115 ([(0, .ref 206)], [], rf_MM w m6)
    refine rf_seg C [(.aload 0, 1)] (pc' := 116) (S' := ([(0, .ref 206)], [.ref 206], rf_MM w m6)) (by decide +kernel) rfl trivial ?_
    obtain ⟨m7, hc7, hg⟩ := rf_bv_some hg
    refine rf_callv C rf_fit0 j_X14_next (ci := 14) (As := []) (rest := []) mw_X14_next (c_X14_next hc7) (by decide) rfl (by decide) lk_14_560 rfl rfl (Nat.le_of_ble_eq_true rfl) (by decide +kernel) ?_
    show rf_V 1 (rf_sh w) K 0 0 119 ([(0, .ref 206)], [], rf_MM w m7)
    obtain rfl := Option.some.inj hg
    exact rf_xvret C hE (by decide +kernel)
  · replace hg := (if_pos hc).symm.trans hg
    refine rf_seg C [(.aload 0, 1), (.invokeinterface 14 50, 3)] (pc' := 105) (S' := ([(0, .ref 206)], [.int (m.1 206 50), .int s1, .ref s0], rf_MM w m)) (by decide +kernel) rfl trivial ?_
    refine rf_goto C 7 112 (by decide +kernel) ?_
    obtain ⟨m8, hc8, hg⟩ := rf_bv_some hg
    refine rf_callv C rf_fit0 j_X12_put (ci := 12) (As := [.int s1, .int (m.1 206 50)]) (rest := []) mw_X12_put (c_X12_put hc8) (by decide) (rf_isO_of q0) (by decide) lk_14_590 rfl rfl (Nat.le_of_ble_eq_true rfl) (by decide +kernel) ?_
    show rf_V 1 (rf_sh w) K 0 0 115 ([(0, .ref 206)], [], rf_MM w m8)
    refine rf_seg C [(.aload 0, 1)] (pc' := 116) (S' := ([(0, .ref 206)], [.ref 206], rf_MM w m8)) (by decide +kernel) rfl trivial ?_
    obtain ⟨m9, hc9, hg⟩ := rf_bv_some hg
    refine rf_callv C rf_fit0 j_X14_next (ci := 14) (As := []) (rest := []) mw_X14_next (c_X14_next hc9) (by decide) rfl (by decide) lk_14_560 rfl rfl (Nat.le_of_ble_eq_true rfl) (by decide +kernel) ?_
    show rf_V 1 (rf_sh w) K 0 0 119 ([(0, .ref 206)], [], rf_MM w m9)
    obtain rfl := Option.some.inj hg
    exact rf_xvret C hE (by decide +kernel)
theorem s_X14_readPart_51 {w : rf_w} {K : rf_K} {r : rf_m ⊕ rf_m} (C : rf_Ctx 14 cX14_readPart 1 8 (rf_sh w) K) (hE : rf_EndX none K (rf_sh w) (rf_rx w r)) (m : rf_m) (hg : g_X14_readPart_51 w m = some r) : rf_V 1 (rf_sh w) K 0 0 51 ([(0, .ref 206)], [], rf_MM w m) := by
  unfold g_X14_readPart_51 at hg
  refine rf_seg C [(.aload 0, 1), (.invokeinterface 14 52, 3), (.iconst 30, 2)] (pc' := 57) (S' := ([(0, .ref 206)], [.int 30, .int (m.1 206 52)], rf_MM w m)) (by decide +kernel) rfl trivial ?_
  refine rf_icmp_ne C 9 66 (by decide +kernel) (fun hc => ?_) (fun hc => ?_)
  · replace hg := (if_neg hc).symm.trans hg
    refine rf_seg C [(.aload 0, 1), (.dup, 1), (.invokeinterface 14 52, 3), (.iconst 1, 1), (.iadd, 1), (.multianewarray 14 52, 3), (.aload 0, 1)] (pc' := 77) (S' := ([(0, .ref 206)], [.ref 206], rf_MM w (rf_i m 206 52 ((m.1 206 52) + 1)))) (by decide +kernel) rfl trivial ?_
    obtain ⟨k0, hk0, hg⟩ := rf_o_some hg
    refine rf_d_getr C 14 41 (q := k0) rfl rfl hk0 (by decide +kernel) ?_
    obtain ⟨q1, hg⟩ := rf_g_some hg
    obtain ⟨q2, hg⟩ := rf_g_some hg
    obtain ⟨q3, hg⟩ := rf_g_some hg
    obtain ⟨q4, hg⟩ := rf_g_some hg
    obtain ⟨q5, hg⟩ := rf_g_some hg
    show rf_V 1 (rf_sh w) K 0 0 80 ([(0, .ref 206)], [.ref k0], rf_MM w (rf_i m 206 52 ((m.1 206 52) + 1)))
    refine rf_seg C [(.aload 0, 1), (.invokeinterface 14 47, 3), (.iconst 3, 1)] (pc' := 85) (S' := ([(0, .ref 206)], [.int 3, .int ((rf_i m 206 52 ((m.1 206 52) + 1)).1 206 47), .ref k0], rf_MM w (rf_i m 206 52 ((m.1 206 52) + 1)))) (by decide +kernel) rfl trivial ?_
    refine rf_icmp_ne C 7 92 (by decide +kernel) (fun hc => ?_) (fun hc => ?_)
    · replace hg := (if_neg hc).symm.trans hg
      refine rf_seg C [(.iconst 1, 1)] (pc' := 93) (S' := ([(0, .ref 206)], [.int 1, .ref k0], rf_MM w (rf_i m 206 52 ((m.1 206 52) + 1)))) (by decide +kernel) rfl trivial ?_
      refine rf_few [0] rfl ?_
      exact s_X14_readPart_93 C hE k0 1 (rf_i m 206 52 ((m.1 206 52) + 1)) hg
    · replace hg := (if_pos hc).symm.trans hg
      refine rf_seg C [(.iconst 0, 1)] (pc' := 89) (S' := ([(0, .ref 206)], [.int 0, .ref k0], rf_MM w (rf_i m 206 52 ((m.1 206 52) + 1)))) (by decide +kernel) rfl trivial ?_
      refine rf_goto C 4 93 (by decide +kernel) ?_
      refine rf_few [0] rfl ?_
      exact s_X14_readPart_93 C hE k0 0 (rf_i m 206 52 ((m.1 206 52) + 1)) hg
  · replace hg := (if_pos hc).symm.trans hg
    refine rf_seg C [(.aload 0, 1), (.iconst 3, 1)] (pc' := 62) (S' := ([(0, .ref 206)], [.int 3, .ref 206], rf_MM w m)) (by decide +kernel) rfl trivial ?_
    obtain ⟨m6, hc6, hg⟩ := rf_bv_some hg
    refine rf_callv C rf_fit0 j_X14_stop (ci := 14) (As := [.int 3]) (rest := []) mw_X14_stop (c_X14_stop hc6) (by decide) rfl (by decide) lk_14_566 rfl rfl (Nat.le_of_ble_eq_true rfl) (by decide +kernel) ?_
    show rf_V 1 (rf_sh w) K 0 0 65 ([(0, .ref 206)], [.ref 233], rf_MM w m6)
    obtain rfl := Option.some.inj hg
    exact rf_xthrow C hE rfl (by decide +kernel)
theorem s_X14_readPart_16 {w : rf_w} {K : rf_K} {r : rf_m ⊕ rf_m} (C : rf_Ctx 14 cX14_readPart 1 8 (rf_sh w) K) (hE : rf_EndX none K (rf_sh w) (rf_rx w r)) (m : rf_m) (hg : g_X14_readPart_16 w m = some r) : rf_V 1 (rf_sh w) K 0 0 16 ([(0, .ref 206)], [], rf_MM w m) := by
  unfold g_X14_readPart_16 at hg
  refine rf_seg C [(.aload 0, 1)] (pc' := 17) (S' := ([(0, .ref 206)], [.ref 206], rf_MM w m)) (by decide +kernel) rfl trivial ?_
  obtain ⟨y0, m0, hc0, hg⟩ := rf_b_some hg
  refine rf_callv C rf_fit0 j_X14_isKept (ci := 14) (As := []) (rest := []) mw_X14_isKept (c_X14_isKept hc0) (by decide) rfl (by decide) lk_14_563 rfl rfl (Nat.le_of_ble_eq_true rfl) (by decide +kernel) ?_
  show rf_V 1 (rf_sh w) K 0 0 20 ([(0, .ref 206)], [.int y0], rf_MM w m0)
  refine rf_if_eq C 9 29 (by decide +kernel) (fun hc => ?_) (fun hc => ?_)
  · replace hg := (if_pos hc).symm.trans hg
    refine rf_seg C [(.aload 0, 1), (.invokeinterface 14 47, 3), (.iconst 2, 1)] (pc' := 34) (S' := ([(0, .ref 206)], [.int 2, .int (m0.1 206 47)], rf_MM w m0)) (by decide +kernel) rfl trivial ?_
    refine rf_icmp_ne C 17 51 (by decide +kernel) (fun hc => ?_) (fun hc => ?_)
    · replace hg := (if_neg hc).symm.trans hg
      refine rf_few [0] rfl ?_
      exact s_X14_readPart_51 C hE m0 hg
    · replace hg := (if_pos hc).symm.trans hg
      refine rf_seg C [(.aload 0, 1)] (pc' := 38) (S' := ([(0, .ref 206)], [.ref 206], rf_MM w m0)) (by decide +kernel) rfl trivial ?_
      obtain ⟨y1, m1, hc1, hg⟩ := rf_b_some hg
      refine rf_callv C rf_fit0 j_X14_nameHere (ci := 14) (As := []) (rest := []) mw_X14_nameHere (c_X14_nameHere hc1) (by decide) rfl (by decide) lk_14_617 rfl rfl (Nat.le_of_ble_eq_true rfl) (by decide +kernel) ?_
      show rf_V 1 (rf_sh w) K 0 0 41 ([(0, .ref 206)], [.int y1], rf_MM w m1)
      refine rf_seg C [(.iconst (-1), 1)] (pc' := 42) (S' := ([(0, .ref 206)], [.int ((-1)), .int y1], rf_MM w m1)) (by decide +kernel) rfl trivial ?_
      refine rf_icmp_ne C 9 51 (by decide +kernel) (fun hc => ?_) (fun hc => ?_)
      · replace hg := (if_neg hc).symm.trans hg
        refine rf_few [0] rfl ?_
        exact s_X14_readPart_51 C hE m1 hg
      · replace hg := (if_pos hc).symm.trans hg
        refine rf_seg C [(.aload 0, 1), (.iconst 2, 1)] (pc' := 47) (S' := ([(0, .ref 206)], [.int 2, .ref 206], rf_MM w m1)) (by decide +kernel) rfl trivial ?_
        obtain ⟨m2, hc2, hg⟩ := rf_bv_some hg
        refine rf_callv C rf_fit0 j_X14_stop (ci := 14) (As := [.int 2]) (rest := []) mw_X14_stop (c_X14_stop hc2) (by decide) rfl (by decide) lk_14_566 rfl rfl (Nat.le_of_ble_eq_true rfl) (by decide +kernel) ?_
        show rf_V 1 (rf_sh w) K 0 0 50 ([(0, .ref 206)], [.ref 233], rf_MM w m2)
        obtain rfl := Option.some.inj hg
        exact rf_xthrow C hE rfl (by decide +kernel)
  · replace hg := (if_neg hc).symm.trans hg
    refine rf_seg C [(.aload 0, 1), (.iconst 1, 1)] (pc' := 25) (S' := ([(0, .ref 206)], [.int 1, .ref 206], rf_MM w m0)) (by decide +kernel) rfl trivial ?_
    obtain ⟨m3, hc3, hg⟩ := rf_bv_some hg
    refine rf_callv C rf_fit0 j_X14_stop (ci := 14) (As := [.int 1]) (rest := []) mw_X14_stop (c_X14_stop hc3) (by decide) rfl (by decide) lk_14_566 rfl rfl (Nat.le_of_ble_eq_true rfl) (by decide +kernel) ?_
    show rf_V 1 (rf_sh w) K 0 0 28 ([(0, .ref 206)], [.ref 233], rf_MM w m3)
    obtain rfl := Option.some.inj hg
    exact rf_xthrow C hE rfl (by decide +kernel)
theorem c_X14_readPart {w : rf_w} {m : rf_m} {r : rf_m ⊕ rf_m} (hg : g_X14_readPart w m = some r) : rf_ConX j_X14_readPart 8 (rf_sh w) [.ref 206] (rf_MM w m) (rf_rx w r) := by
  refine rf_conX j_X14_readPart 8 ⟨by decide +kernel, rfl, Nat.le_of_ble_eq_true rfl⟩ (fun K C hE => ?_)
  unfold g_X14_readPart at hg
  show rf_V 1 (rf_sh w) K 0 0 0 ([(0, .ref 206)], [], rf_MM w m)
  refine rf_seg C [(.aload 0, 1), (.invokeinterface 14 47, 3), (.iconst 3, 1)] (pc' := 5) (S' := ([(0, .ref 206)], [.int 3, .int (m.1 206 47)], rf_MM w m)) (by decide +kernel) rfl trivial ?_
  refine rf_icmp_eq C 11 16 (by decide +kernel) (fun hc => ?_) (fun hc => ?_)
  · replace hg := (if_pos hc).symm.trans hg
    refine rf_few [0] rfl ?_
    exact s_X14_readPart_16 C hE m hg
  · replace hg := (if_neg hc).symm.trans hg
    refine rf_seg C [(.aload 0, 1), (.invokeinterface 14 47, 3), (.iconst 2, 1)] (pc' := 13) (S' := ([(0, .ref 206)], [.int 2, .int (m.1 206 47)], rf_MM w m)) (by decide +kernel) rfl trivial ?_
    refine rf_icmp_ne C 10 23 (by decide +kernel) (fun hc => ?_) (fun hc => ?_)
    · replace hg := (if_neg hc).symm.trans hg
      refine rf_seg C [(.aload 0, 1), (.iconst 1, 1)] (pc' := 25) (S' := ([(0, .ref 206)], [.int 1, .ref 206], rf_MM w m)) (by decide +kernel) rfl trivial ?_
      obtain ⟨m0, hc0, hg⟩ := rf_bv_some hg
      refine rf_callv C rf_fit0 j_X14_stop (ci := 14) (As := [.int 1]) (rest := []) mw_X14_stop (c_X14_stop hc0) (by decide) rfl (by decide) lk_14_566 rfl rfl (Nat.le_of_ble_eq_true rfl) (by decide +kernel) ?_
      show rf_V 1 (rf_sh w) K 0 0 28 ([(0, .ref 206)], [.ref 233], rf_MM w m0)
      obtain rfl := Option.some.inj hg
      exact rf_xthrow C hE rfl (by decide +kernel)
    · replace hg := (if_pos hc).symm.trans hg
      refine rf_few [0] rfl ?_
      exact s_X14_readPart_16 C hE m hg
-- X14_readTerm
def g_X14_readTerm_4_b (w : rf_w) (rec4 : rf_m → Option (rf_m ⊕ rf_m)) (m : rf_m) : Option (rf_m ⊕ rf_m) := rf_b (g_X14_is w m 42) fun y0 m0 => (if y0 = 0 then some (.inl m0) else rf_bv (g_X14_next w m0) fun m1 => rf_bx (g_X14_readPart w m1) fun m2 => rf_o (w.2.2 0) fun k3 => rf_g (rf_isO w k3 12) (rf_g (rf_isR w k3 5 (k3 + 1)) (rf_g (rf_isA w (k3 + 1) .int 300) (rf_g (rf_isR w k3 6 (k3 + 2)) (rf_g (rf_isA w (k3 + 2) .int 300) (rf_bv (g_X12_put w m2 k3 4 0) fun m9 => rec4 m9))))))
def g_X14_readTerm_4 (w : rf_w) : Nat → rf_m → Option (rf_m ⊕ rf_m)
  | 0, _ => none
  | n + 1, m => g_X14_readTerm_4_b w (g_X14_readTerm_4 w n) m
def g_X14_readTerm (w : rf_w) (m : rf_m) : Option (rf_m ⊕ rf_m) := rf_bx (g_X14_readPart w m) fun m0 => g_X14_readTerm_4 w rf_fuel m0
theorem s_X14_readTerm_4_b {w : rf_w} {K : rf_K} {r : rf_m ⊕ rf_m} (C : rf_Ctx 14 cX14_readTerm 1 9 (rf_sh w) K) (hE : rf_EndX none K (rf_sh w) (rf_rx w r)) {rec4 : rf_m → Option (rf_m ⊕ rf_m)} (hr4 : ∀ (m : rf_m), rec4 m = some r → rf_V 1 (rf_sh w) K 0 0 4 ([(0, .ref 206)], [], rf_MM w m)) (m : rf_m) (hg : g_X14_readTerm_4_b w rec4 m = some r) : rf_V 1 (rf_sh w) K 0 0 4 ([(0, .ref 206)], [], rf_MM w m) := by
  unfold g_X14_readTerm_4_b at hg
  refine rf_seg C [(.aload 0, 1), (.iconst 42, 2)] (pc' := 7) (S' := ([(0, .ref 206)], [.int 42, .ref 206], rf_MM w m)) (by decide +kernel) rfl trivial ?_
  obtain ⟨y0, m0, hc0, hg⟩ := rf_b_some hg
  refine rf_callv C rf_fit0 j_X14_is (ci := 14) (As := [.int 42]) (rest := []) mw_X14_is (c_X14_is hc0) (by decide) rfl (by decide) lk_14_596 rfl rfl (Nat.le_of_ble_eq_true rfl) (by decide +kernel) ?_
  show rf_V 1 (rf_sh w) K 0 0 10 ([(0, .ref 206)], [.int y0], rf_MM w m0)
  refine rf_if_eq C 23 33 (by decide +kernel) (fun hc => ?_) (fun hc => ?_)
  · replace hg := (if_pos hc).symm.trans hg
    obtain rfl := Option.some.inj hg
    exact rf_xvret C hE (by decide +kernel)
  · replace hg := (if_neg hc).symm.trans hg
    refine rf_seg C [(.aload 0, 1)] (pc' := 14) (S' := ([(0, .ref 206)], [.ref 206], rf_MM w m0)) (by decide +kernel) rfl trivial ?_
    obtain ⟨m1, hc1, hg⟩ := rf_bv_some hg
    refine rf_callv C rf_fit0 j_X14_next (ci := 14) (As := []) (rest := []) mw_X14_next (c_X14_next hc1) (by decide) rfl (by decide) lk_14_560 rfl rfl (Nat.le_of_ble_eq_true rfl) (by decide +kernel) ?_
    show rf_V 1 (rf_sh w) K 0 0 17 ([(0, .ref 206)], [], rf_MM w m1)
    refine rf_seg C [(.aload 0, 1)] (pc' := 18) (S' := ([(0, .ref 206)], [.ref 206], rf_MM w m1)) (by decide +kernel) rfl trivial ?_
    rcases rf_bx_some hg with ⟨m2, hc2, hg⟩ | ⟨m2, hc2, rfl⟩
    rotate_left
    · exact rf_callvX C j_X14_readPart (ci := 14) (As := []) (rest := []) (r := .inr (233, rf_MM w m2)) mw_X14_readPart (c_X14_readPart hc2) (by decide) rfl (by decide) lk_14_602 rfl rfl (Nat.le_of_ble_eq_true rfl) (by decide +kernel) ⟨⟨_, hE⟩, rfl⟩
    refine rf_callvX C j_X14_readPart (ci := 14) (As := []) (rest := []) (r := .inl (none, rf_MM w m2)) mw_X14_readPart (c_X14_readPart hc2) (by decide) rfl (by decide) lk_14_602 rfl rfl (Nat.le_of_ble_eq_true rfl) (by decide +kernel) ?_
    show rf_V 1 (rf_sh w) K 0 0 21 ([(0, .ref 206)], [], rf_MM w m2)
    refine rf_seg C [(.aload 0, 1)] (pc' := 22) (S' := ([(0, .ref 206)], [.ref 206], rf_MM w m2)) (by decide +kernel) rfl trivial ?_
    obtain ⟨k3, hk3, hg⟩ := rf_o_some hg
    refine rf_d_getr C 14 41 (q := k3) rfl rfl hk3 (by decide +kernel) ?_
    obtain ⟨q4, hg⟩ := rf_g_some hg
    obtain ⟨q5, hg⟩ := rf_g_some hg
    obtain ⟨q6, hg⟩ := rf_g_some hg
    obtain ⟨q7, hg⟩ := rf_g_some hg
    obtain ⟨q8, hg⟩ := rf_g_some hg
    show rf_V 1 (rf_sh w) K 0 0 25 ([(0, .ref 206)], [.ref k3], rf_MM w m2)
    refine rf_seg C [(.iconst 4, 1), (.iconst 0, 1)] (pc' := 27) (S' := ([(0, .ref 206)], [.int 0, .int 4, .ref k3], rf_MM w m2)) (by decide +kernel) rfl trivial ?_
    obtain ⟨m9, hc9, hg⟩ := rf_bv_some hg
    refine rf_callv C rf_fit0 j_X12_put (ci := 12) (As := [.int 4, .int 0]) (rest := []) mw_X12_put (c_X12_put hc9) (by decide) (rf_isO_of q4) (by decide) lk_14_590 rfl rfl (Nat.le_of_ble_eq_true rfl) (by decide +kernel) ?_
    show rf_V 1 (rf_sh w) K 0 0 30 ([(0, .ref 206)], [], rf_MM w m9)
    refine rf_goto C (-26) 4 (by decide +kernel) ?_
    refine rf_few [0] rfl ?_
    exact hr4 m9 hg
theorem s_X14_readTerm_4 {w : rf_w} {K : rf_K} {r : rf_m ⊕ rf_m} (C : rf_Ctx 14 cX14_readTerm 1 9 (rf_sh w) K) (hE : rf_EndX none K (rf_sh w) (rf_rx w r)) (n : Nat) : ∀ (m : rf_m), g_X14_readTerm_4 w n m = some r → rf_V 1 (rf_sh w) K 0 0 4 ([(0, .ref 206)], [], rf_MM w m) := by
  induction n with
  | zero => intro m hg; cases hg
  | succ n ih => intro m hg; exact s_X14_readTerm_4_b C hE ih m hg
theorem c_X14_readTerm {w : rf_w} {m : rf_m} {r : rf_m ⊕ rf_m} (hg : g_X14_readTerm w m = some r) : rf_ConX j_X14_readTerm 9 (rf_sh w) [.ref 206] (rf_MM w m) (rf_rx w r) := by
  refine rf_conX j_X14_readTerm 9 ⟨by decide +kernel, rfl, Nat.le_of_ble_eq_true rfl⟩ (fun K C hE => ?_)
  unfold g_X14_readTerm at hg
  show rf_V 1 (rf_sh w) K 0 0 0 ([(0, .ref 206)], [], rf_MM w m)
  refine rf_seg C [(.aload 0, 1)] (pc' := 1) (S' := ([(0, .ref 206)], [.ref 206], rf_MM w m)) (by decide +kernel) rfl trivial ?_
  rcases rf_bx_some hg with ⟨m0, hc0, hg⟩ | ⟨m0, hc0, rfl⟩
  rotate_left
  · exact rf_callvX C j_X14_readPart (ci := 14) (As := []) (rest := []) (r := .inr (233, rf_MM w m0)) mw_X14_readPart (c_X14_readPart hc0) (by decide) rfl (by decide) lk_14_602 rfl rfl (Nat.le_of_ble_eq_true rfl) (by decide +kernel) ⟨⟨_, hE⟩, rfl⟩
  refine rf_callvX C j_X14_readPart (ci := 14) (As := []) (rest := []) (r := .inl (none, rf_MM w m0)) mw_X14_readPart (c_X14_readPart hc0) (by decide) rfl (by decide) lk_14_602 rfl rfl (Nat.le_of_ble_eq_true rfl) (by decide +kernel) ?_
  show rf_V 1 (rf_sh w) K 0 0 4 ([(0, .ref 206)], [], rf_MM w m0)
  refine rf_few [0] rfl ?_
  exact s_X14_readTerm_4 C hE rf_fuel m0 hg
-- X14_readSum
def g_X14_readSum_36 (w : rf_w) (rec4 : rf_m → Option (rf_m ⊕ rf_m)) (s0 : Int32) (m : rf_m) : Option (rf_m ⊕ rf_m) := rf_bv (g_X14_next w m) fun m0 => rf_bx (g_X14_readTerm w m0) fun m1 => rf_o (w.2.2 0) fun k2 => rf_g (rf_isO w k2 12) (rf_g (rf_isR w k2 5 (k2 + 1)) (rf_g (rf_isA w (k2 + 1) .int 300) (rf_g (rf_isR w k2 6 (k2 + 2)) (rf_g (rf_isA w (k2 + 2) .int 300) (rf_bv (g_X12_put w m1 k2 s0 0) fun m8 => rec4 m8)))))
def g_X14_readSum_22 (w : rf_w) (rec4 : rf_m → Option (rf_m ⊕ rf_m)) (m : rf_m) : Option (rf_m ⊕ rf_m) := rf_b (g_X14_is w m 43) fun y0 m0 => (if y0 = 0 then g_X14_readSum_36 w rec4 3 m0 else g_X14_readSum_36 w rec4 2 m0)
def g_X14_readSum_4_b (w : rf_w) (rec4 : rf_m → Option (rf_m ⊕ rf_m)) (m : rf_m) : Option (rf_m ⊕ rf_m) := rf_b (g_X14_is w m 43) fun y0 m0 => (if y0 = 0 then rf_b (g_X14_is w m0 45) fun y1 m1 => (if y1 = 0 then some (.inl m1) else g_X14_readSum_22 w rec4 m1) else g_X14_readSum_22 w rec4 m0)
def g_X14_readSum_4 (w : rf_w) : Nat → rf_m → Option (rf_m ⊕ rf_m)
  | 0, _ => none
  | n + 1, m => g_X14_readSum_4_b w (g_X14_readSum_4 w n) m
def g_X14_readSum (w : rf_w) (m : rf_m) : Option (rf_m ⊕ rf_m) := rf_bx (g_X14_readTerm w m) fun m0 => g_X14_readSum_4 w rf_fuel m0
theorem s_X14_readSum_36 {w : rf_w} {K : rf_K} {r : rf_m ⊕ rf_m} (C : rf_Ctx 14 cX14_readSum 2 10 (rf_sh w) K) (hE : rf_EndX none K (rf_sh w) (rf_rx w r)) {rec4 : rf_m → Option (rf_m ⊕ rf_m)} (hr4 : ∀ (m : rf_m), rec4 m = some r → rf_V 2 (rf_sh w) K 0 0 4 ([(0, .ref 206)], [], rf_MM w m)) (s0 : Int32) (m : rf_m) (hg : g_X14_readSum_36 w rec4 s0 m = some r) : rf_V 2 (rf_sh w) K 0 0 36 ([(0, .ref 206)], [.int s0], rf_MM w m) := by
  unfold g_X14_readSum_36 at hg
  refine rf_seg C [(.istore 1, 1), (.aload 0, 1)] (pc' := 38) (S' := ([(1, .int s0), (0, .ref 206)], [.ref 206], rf_MM w m)) (by decide +kernel) rfl trivial ?_
  obtain ⟨m0, hc0, hg⟩ := rf_bv_some hg
  refine rf_callv C rf_fit0 j_X14_next (ci := 14) (As := []) (rest := []) mw_X14_next (c_X14_next hc0) (by decide) rfl (by decide) lk_14_560 rfl rfl (Nat.le_of_ble_eq_true rfl) (by decide +kernel) ?_
  show rf_V 2 (rf_sh w) K 0 0 41 ([(1, .int s0), (0, .ref 206)], [], rf_MM w m0)
  refine rf_seg C [(.aload 0, 1)] (pc' := 42) (S' := ([(1, .int s0), (0, .ref 206)], [.ref 206], rf_MM w m0)) (by decide +kernel) rfl trivial ?_
  rcases rf_bx_some hg with ⟨m1, hc1, hg⟩ | ⟨m1, hc1, rfl⟩
  rotate_left
  · exact rf_callvX C j_X14_readTerm (ci := 14) (As := []) (rest := []) (r := .inr (233, rf_MM w m1)) mw_X14_readTerm (c_X14_readTerm hc1) (by decide) rfl (by decide) lk_14_599 rfl rfl (Nat.le_of_ble_eq_true rfl) (by decide +kernel) ⟨⟨_, hE⟩, rfl⟩
  refine rf_callvX C j_X14_readTerm (ci := 14) (As := []) (rest := []) (r := .inl (none, rf_MM w m1)) mw_X14_readTerm (c_X14_readTerm hc1) (by decide) rfl (by decide) lk_14_599 rfl rfl (Nat.le_of_ble_eq_true rfl) (by decide +kernel) ?_
  show rf_V 2 (rf_sh w) K 0 0 45 ([(1, .int s0), (0, .ref 206)], [], rf_MM w m1)
  refine rf_seg C [(.aload 0, 1)] (pc' := 46) (S' := ([(1, .int s0), (0, .ref 206)], [.ref 206], rf_MM w m1)) (by decide +kernel) rfl trivial ?_
  obtain ⟨k2, hk2, hg⟩ := rf_o_some hg
  refine rf_d_getr C 14 41 (q := k2) rfl rfl hk2 (by decide +kernel) ?_
  obtain ⟨q3, hg⟩ := rf_g_some hg
  obtain ⟨q4, hg⟩ := rf_g_some hg
  obtain ⟨q5, hg⟩ := rf_g_some hg
  obtain ⟨q6, hg⟩ := rf_g_some hg
  obtain ⟨q7, hg⟩ := rf_g_some hg
  show rf_V 2 (rf_sh w) K 0 0 49 ([(1, .int s0), (0, .ref 206)], [.ref k2], rf_MM w m1)
  refine rf_seg C [(.iload 1, 1), (.iconst 0, 1)] (pc' := 51) (S' := ([(1, .int s0), (0, .ref 206)], [.int 0, .int s0, .ref k2], rf_MM w m1)) (by decide +kernel) rfl trivial ?_
  obtain ⟨m8, hc8, hg⟩ := rf_bv_some hg
  refine rf_callv C rf_fit0 j_X12_put (ci := 12) (As := [.int s0, .int 0]) (rest := []) mw_X12_put (c_X12_put hc8) (by decide) (rf_isO_of q3) (by decide) lk_14_590 rfl rfl (Nat.le_of_ble_eq_true rfl) (by decide +kernel) ?_
  show rf_V 2 (rf_sh w) K 0 0 54 ([(1, .int s0), (0, .ref 206)], [], rf_MM w m8)
  refine rf_goto C (-50) 4 (by decide +kernel) ?_
  refine rf_few [1] rfl ?_
  exact hr4 m8 hg
theorem s_X14_readSum_22 {w : rf_w} {K : rf_K} {r : rf_m ⊕ rf_m} (C : rf_Ctx 14 cX14_readSum 2 10 (rf_sh w) K) (hE : rf_EndX none K (rf_sh w) (rf_rx w r)) {rec4 : rf_m → Option (rf_m ⊕ rf_m)} (hr4 : ∀ (m : rf_m), rec4 m = some r → rf_V 2 (rf_sh w) K 0 0 4 ([(0, .ref 206)], [], rf_MM w m)) (m : rf_m) (hg : g_X14_readSum_22 w rec4 m = some r) : rf_V 2 (rf_sh w) K 0 0 22 ([(0, .ref 206)], [], rf_MM w m) := by
  unfold g_X14_readSum_22 at hg
  refine rf_seg C [(.aload 0, 1), (.iconst 43, 2)] (pc' := 25) (S' := ([(0, .ref 206)], [.int 43, .ref 206], rf_MM w m)) (by decide +kernel) rfl trivial ?_
  obtain ⟨y0, m0, hc0, hg⟩ := rf_b_some hg
  refine rf_callv C rf_fit0 j_X14_is (ci := 14) (As := [.int 43]) (rest := []) mw_X14_is (c_X14_is hc0) (by decide) rfl (by decide) lk_14_596 rfl rfl (Nat.le_of_ble_eq_true rfl) (by decide +kernel) ?_
  show rf_V 2 (rf_sh w) K 0 0 28 ([(0, .ref 206)], [.int y0], rf_MM w m0)
  refine rf_if_eq C 7 35 (by decide +kernel) (fun hc => ?_) (fun hc => ?_)
  · replace hg := (if_pos hc).symm.trans hg
    refine rf_seg C [(.iconst 3, 1)] (pc' := 36) (S' := ([(0, .ref 206)], [.int 3], rf_MM w m0)) (by decide +kernel) rfl trivial ?_
    refine rf_few [0] rfl ?_
    exact s_X14_readSum_36 C hE hr4 3 m0 hg
  · replace hg := (if_neg hc).symm.trans hg
    refine rf_seg C [(.iconst 2, 1)] (pc' := 32) (S' := ([(0, .ref 206)], [.int 2], rf_MM w m0)) (by decide +kernel) rfl trivial ?_
    refine rf_goto C 4 36 (by decide +kernel) ?_
    refine rf_few [0] rfl ?_
    exact s_X14_readSum_36 C hE hr4 2 m0 hg
theorem s_X14_readSum_4_b {w : rf_w} {K : rf_K} {r : rf_m ⊕ rf_m} (C : rf_Ctx 14 cX14_readSum 2 10 (rf_sh w) K) (hE : rf_EndX none K (rf_sh w) (rf_rx w r)) {rec4 : rf_m → Option (rf_m ⊕ rf_m)} (hr4 : ∀ (m : rf_m), rec4 m = some r → rf_V 2 (rf_sh w) K 0 0 4 ([(0, .ref 206)], [], rf_MM w m)) (m : rf_m) (hg : g_X14_readSum_4_b w rec4 m = some r) : rf_V 2 (rf_sh w) K 0 0 4 ([(0, .ref 206)], [], rf_MM w m) := by
  unfold g_X14_readSum_4_b at hg
  refine rf_seg C [(.aload 0, 1), (.iconst 43, 2)] (pc' := 7) (S' := ([(0, .ref 206)], [.int 43, .ref 206], rf_MM w m)) (by decide +kernel) rfl trivial ?_
  obtain ⟨y0, m0, hc0, hg⟩ := rf_b_some hg
  refine rf_callv C rf_fit0 j_X14_is (ci := 14) (As := [.int 43]) (rest := []) mw_X14_is (c_X14_is hc0) (by decide) rfl (by decide) lk_14_596 rfl rfl (Nat.le_of_ble_eq_true rfl) (by decide +kernel) ?_
  show rf_V 2 (rf_sh w) K 0 0 10 ([(0, .ref 206)], [.int y0], rf_MM w m0)
  refine rf_if_ne C 12 22 (by decide +kernel) (fun hc => ?_) (fun hc => ?_)
  · replace hg := (if_neg hc).symm.trans hg
    refine rf_few [0] rfl ?_
    exact s_X14_readSum_22 C hE hr4 m0 hg
  · replace hg := (if_pos hc).symm.trans hg
    refine rf_seg C [(.aload 0, 1), (.iconst 45, 2)] (pc' := 16) (S' := ([(0, .ref 206)], [.int 45, .ref 206], rf_MM w m0)) (by decide +kernel) rfl trivial ?_
    obtain ⟨y1, m1, hc1, hg⟩ := rf_b_some hg
    refine rf_callv C rf_fit0 j_X14_is (ci := 14) (As := [.int 45]) (rest := []) mw_X14_is (c_X14_is hc1) (by decide) rfl (by decide) lk_14_596 rfl rfl (Nat.le_of_ble_eq_true rfl) (by decide +kernel) ?_
    show rf_V 2 (rf_sh w) K 0 0 19 ([(0, .ref 206)], [.int y1], rf_MM w m1)
    refine rf_if_eq C 38 57 (by decide +kernel) (fun hc => ?_) (fun hc => ?_)
    · replace hg := (if_pos hc).symm.trans hg
      obtain rfl := Option.some.inj hg
      exact rf_xvret C hE (by decide +kernel)
    · replace hg := (if_neg hc).symm.trans hg
      refine rf_few [0] rfl ?_
      exact s_X14_readSum_22 C hE hr4 m1 hg
theorem s_X14_readSum_4 {w : rf_w} {K : rf_K} {r : rf_m ⊕ rf_m} (C : rf_Ctx 14 cX14_readSum 2 10 (rf_sh w) K) (hE : rf_EndX none K (rf_sh w) (rf_rx w r)) (n : Nat) : ∀ (m : rf_m), g_X14_readSum_4 w n m = some r → rf_V 2 (rf_sh w) K 0 0 4 ([(0, .ref 206)], [], rf_MM w m) := by
  induction n with
  | zero => intro m hg; cases hg
  | succ n ih => intro m hg; exact s_X14_readSum_4_b C hE ih m hg
theorem c_X14_readSum {w : rf_w} {m : rf_m} {r : rf_m ⊕ rf_m} (hg : g_X14_readSum w m = some r) : rf_ConX j_X14_readSum 10 (rf_sh w) [.ref 206] (rf_MM w m) (rf_rx w r) := by
  refine rf_conX j_X14_readSum 10 ⟨by decide +kernel, rfl, Nat.le_of_ble_eq_true rfl⟩ (fun K C hE => ?_)
  unfold g_X14_readSum at hg
  show rf_V 2 (rf_sh w) K 0 0 0 ([(0, .ref 206)], [], rf_MM w m)
  refine rf_seg C [(.aload 0, 1)] (pc' := 1) (S' := ([(0, .ref 206)], [.ref 206], rf_MM w m)) (by decide +kernel) rfl trivial ?_
  rcases rf_bx_some hg with ⟨m0, hc0, hg⟩ | ⟨m0, hc0, rfl⟩
  rotate_left
  · exact rf_callvX C j_X14_readTerm (ci := 14) (As := []) (rest := []) (r := .inr (233, rf_MM w m0)) mw_X14_readTerm (c_X14_readTerm hc0) (by decide) rfl (by decide) lk_14_599 rfl rfl (Nat.le_of_ble_eq_true rfl) (by decide +kernel) ⟨⟨_, hE⟩, rfl⟩
  refine rf_callvX C j_X14_readTerm (ci := 14) (As := []) (rest := []) (r := .inl (none, rf_MM w m0)) mw_X14_readTerm (c_X14_readTerm hc0) (by decide) rfl (by decide) lk_14_599 rfl rfl (Nat.le_of_ble_eq_true rfl) (by decide +kernel) ?_
  show rf_V 2 (rf_sh w) K 0 0 4 ([(0, .ref 206)], [], rf_MM w m0)
  refine rf_few [0] rfl ?_
  exact s_X14_readSum_4 C hE rf_fuel m0 hg
-- X14_readOne
def g_X14_readOne_185_b (w : rf_w) (rc_X14_readAny : rf_m → Option (rf_m ⊕ rf_m)) (rec185 : Int32 → Int32 → rf_m → Option (rf_m ⊕ rf_m)) (a1 : Int32) (a2 : Int32) (m : rf_m) : Option (rf_m ⊕ rf_m) := (if a1 ≤ a2 then some (.inl m) else rf_o (w.2.2 0) fun k0 => rf_g (rf_isO w k0 12) (rf_g (rf_isR w k0 5 (k0 + 1)) (rf_g (rf_isA w (k0 + 1) .int 300) (rf_g (rf_isR w k0 6 (k0 + 2)) (rf_g (rf_isA w (k0 + 2) .int 300) (rf_bv (g_X12_put w m k0 8 0) fun m6 => rec185 a1 (a2 + 1) m6))))))
def g_X14_readOne_185 (w : rf_w) (rc_X14_readAny : rf_m → Option (rf_m ⊕ rf_m)) : Nat → Int32 → Int32 → rf_m → Option (rf_m ⊕ rf_m)
  | 0, _, _, _ => none
  | n + 1, a1, a2, m => g_X14_readOne_185_b w rc_X14_readAny (g_X14_readOne_185 w rc_X14_readAny n) a1 a2 m
def g_X14_readOne_183 (w : rf_w) (rc_X14_readAny : rf_m → Option (rf_m ⊕ rf_m)) (a1 : Int32) (m : rf_m) : Option (rf_m ⊕ rf_m) := g_X14_readOne_185 w rc_X14_readAny rf_fuel a1 0 m
def g_X14_readOne_154 (w : rf_w) (rc_X14_readAny : rf_m → Option (rf_m ⊕ rf_m)) (a1 : Int32) (s0 : Int32) (m : rf_m) : Option (rf_m ⊕ rf_m) := (if s0 = ((-1)) then rf_bv (g_X14_stop w m 1) fun m9 => some (.inr m9) else rf_bv (g_X14_next w m) fun m0 => rf_bx (g_X14_readSum w m0) fun m1 => rf_o (w.2.2 0) fun k2 => rf_g (rf_isO w k2 12) (rf_g (rf_isR w k2 5 (k2 + 1)) (rf_g (rf_isA w (k2 + 1) .int 300) (rf_g (rf_isR w k2 6 (k2 + 2)) (rf_g (rf_isA w (k2 + 2) .int 300) (rf_bv (g_X12_put w m1 k2 s0 0) fun m8 => g_X14_readOne_183 w rc_X14_readAny a1 m8))))))
def g_X14_readOne_2_b (w : rf_w) (rc_X14_readAny : rf_m → Option (rf_m ⊕ rf_m)) (rec2 : Int32 → rf_m → Option (rf_m ⊕ rf_m)) (a1 : Int32) (m : rf_m) : Option (rf_m ⊕ rf_m) := rf_b (g_X14_isWord w m 1000020) fun y0 m0 => (if y0 = 0 then rf_b (g_X14_is w m0 40) fun y1 m1 => (if y1 = 0 then rf_bx (g_X14_readSum w m1) fun m2 => rf_b (g_X14_is w m2 60) fun y3 m3 => (if y3 = 0 then rf_b (g_X14_is w m3 62) fun y4 m4 => (if y4 = 0 then rf_b (g_X14_is w m4 61) fun y5 m5 => (if y5 = 0 then g_X14_readOne_154 w rc_X14_readAny a1 ((-1)) m5 else g_X14_readOne_154 w rc_X14_readAny a1 7 m5) else g_X14_readOne_154 w rc_X14_readAny a1 6 m4) else g_X14_readOne_154 w rc_X14_readAny a1 5 m3) else (if (m1.1 206 51) = 8 then rf_bv (g_X14_stop w m1 3) fun m11 => some (.inr m11) else rf_bv (g_X14_next w (rf_i m1 206 51 ((m1.1 206 51) + 1))) fun m6 => rf_bx (rc_X14_readAny m6) fun m7 => rf_b (g_X14_is w m7 41) fun y8 m8 => (if y8 = 0 then rf_bv (g_X14_stop w m8 1) fun m10 => some (.inr m10) else rf_bv (g_X14_next w m8) fun m9 => g_X14_readOne_183 w rc_X14_readAny a1 (rf_i m9 206 51 ((m9.1 206 51) - 1))))) else (if a1 = 8 then rf_bv (g_X14_stop w m0 3) fun m13 => some (.inr m13) else rf_bv (g_X14_next w m0) fun m12 => rec2 (a1 + 1) m12))
def g_X14_readOne_2 (w : rf_w) (rc_X14_readAny : rf_m → Option (rf_m ⊕ rf_m)) : Nat → Int32 → rf_m → Option (rf_m ⊕ rf_m)
  | 0, _, _ => none
  | n + 1, a1, m => g_X14_readOne_2_b w rc_X14_readAny (g_X14_readOne_2 w rc_X14_readAny n) a1 m
def g_X14_readOne (w : rf_w) (rc_X14_readAny : rf_m → Option (rf_m ⊕ rf_m)) (m : rf_m) : Option (rf_m ⊕ rf_m) := g_X14_readOne_2 w rc_X14_readAny rf_fuel 0 m
theorem s_X14_readOne_185_b {w : rf_w} {K : rf_K} {e : Nat} {rc_X14_readAny : rf_m → Option (rf_m ⊕ rf_m)} {r : rf_m ⊕ rf_m} (C : rf_Ctx 14 cX14_readOne 3 (e + 11) (rf_sh w) K) (hE : rf_EndX none K (rf_sh w) (rf_rx w r)) (hrc_X14_readAny : ∀ (m : rf_m) (r : rf_m ⊕ rf_m), rc_X14_readAny m = some r → rf_ConX j_X14_readAny e (rf_sh w) [.ref 206] (rf_MM w m) (rf_rx w r)) {rec185 : Int32 → Int32 → rf_m → Option (rf_m ⊕ rf_m)} (hr185 : ∀ (a1 : Int32) (a2 : Int32) (m : rf_m), rec185 a1 a2 m = some r → rf_V 3 (rf_sh w) K 0 0 185 ([(0, .ref 206), (1, .int a1), (2, .int a2)], [], rf_MM w m)) (a1 : Int32) (a2 : Int32) (m : rf_m) (hg : g_X14_readOne_185_b w rc_X14_readAny rec185 a1 a2 m = some r) : rf_V 3 (rf_sh w) K 0 0 185 ([(0, .ref 206), (1, .int a1), (2, .int a2)], [], rf_MM w m) := by
  unfold g_X14_readOne_185_b at hg
  refine rf_seg C [(.iload 2, 1), (.iload 1, 1)] (pc' := 187) (S' := ([(0, .ref 206), (1, .int a1), (2, .int a2)], [.int a1, .int a2], rf_MM w m)) (by decide +kernel) rfl trivial ?_
  refine rf_icmp_ge C 19 206 (by decide +kernel) (fun hc => ?_) (fun hc => ?_)
  · replace hg := (if_pos hc).symm.trans hg
    obtain rfl := Option.some.inj hg
    exact rf_xvret C hE (by decide +kernel)
  · replace hg := (if_neg hc).symm.trans hg
    refine rf_seg C [(.aload 0, 1)] (pc' := 191) (S' := ([(0, .ref 206), (1, .int a1), (2, .int a2)], [.ref 206], rf_MM w m)) (by decide +kernel) rfl trivial ?_
    obtain ⟨k0, hk0, hg⟩ := rf_o_some hg
    refine rf_d_getr C 14 41 (q := k0) rfl rfl hk0 (by decide +kernel) ?_
    obtain ⟨q1, hg⟩ := rf_g_some hg
    obtain ⟨q2, hg⟩ := rf_g_some hg
    obtain ⟨q3, hg⟩ := rf_g_some hg
    obtain ⟨q4, hg⟩ := rf_g_some hg
    obtain ⟨q5, hg⟩ := rf_g_some hg
    show rf_V 3 (rf_sh w) K 0 0 194 ([(0, .ref 206), (1, .int a1), (2, .int a2)], [.ref k0], rf_MM w m)
    refine rf_seg C [(.iconst 8, 2), (.iconst 0, 1)] (pc' := 197) (S' := ([(0, .ref 206), (1, .int a1), (2, .int a2)], [.int 0, .int 8, .ref k0], rf_MM w m)) (by decide +kernel) rfl trivial ?_
    obtain ⟨m6, hc6, hg⟩ := rf_bv_some hg
    refine rf_callv C rf_fit0 j_X12_put (ci := 12) (As := [.int 8, .int 0]) (rest := []) mw_X12_put (c_X12_put hc6) (by omega) (rf_isO_of q1) (by decide) lk_14_590 rfl rfl (Nat.le_of_ble_eq_true rfl) (by decide +kernel) ?_
    show rf_V 3 (rf_sh w) K 0 0 200 ([(0, .ref 206), (1, .int a1), (2, .int a2)], [], rf_MM w m6)
    refine rf_seg C [(.iinc 2 1, 3)] (pc' := 203) (S' := ([(2, .int (a2 + 1)), (0, .ref 206), (1, .int a1)], [], rf_MM w m6)) (by decide +kernel) rfl trivial ?_
    refine rf_goto C (-18) 185 (by decide +kernel) ?_
    refine rf_few [1, 2, 0] rfl ?_
    exact hr185 a1 (a2 + 1) m6 hg
theorem s_X14_readOne_185 {w : rf_w} {K : rf_K} {e : Nat} {rc_X14_readAny : rf_m → Option (rf_m ⊕ rf_m)} {r : rf_m ⊕ rf_m} (C : rf_Ctx 14 cX14_readOne 3 (e + 11) (rf_sh w) K) (hE : rf_EndX none K (rf_sh w) (rf_rx w r)) (hrc_X14_readAny : ∀ (m : rf_m) (r : rf_m ⊕ rf_m), rc_X14_readAny m = some r → rf_ConX j_X14_readAny e (rf_sh w) [.ref 206] (rf_MM w m) (rf_rx w r)) (n : Nat) : ∀ (a1 : Int32) (a2 : Int32) (m : rf_m), g_X14_readOne_185 w rc_X14_readAny n a1 a2 m = some r → rf_V 3 (rf_sh w) K 0 0 185 ([(0, .ref 206), (1, .int a1), (2, .int a2)], [], rf_MM w m) := by
  induction n with
  | zero => intro a1 a2 m hg; cases hg
  | succ n ih => intro a1 a2 m hg; exact s_X14_readOne_185_b C hE hrc_X14_readAny ih a1 a2 m hg
theorem s_X14_readOne_183 {w : rf_w} {K : rf_K} {e : Nat} {rc_X14_readAny : rf_m → Option (rf_m ⊕ rf_m)} {r : rf_m ⊕ rf_m} (C : rf_Ctx 14 cX14_readOne 3 (e + 11) (rf_sh w) K) (hE : rf_EndX none K (rf_sh w) (rf_rx w r)) (hrc_X14_readAny : ∀ (m : rf_m) (r : rf_m ⊕ rf_m), rc_X14_readAny m = some r → rf_ConX j_X14_readAny e (rf_sh w) [.ref 206] (rf_MM w m) (rf_rx w r)) (a1 : Int32) (m : rf_m) (hg : g_X14_readOne_183 w rc_X14_readAny a1 m = some r) : rf_V 3 (rf_sh w) K 0 0 183 ([(0, .ref 206), (1, .int a1)], [], rf_MM w m) := by
  unfold g_X14_readOne_183 at hg
  refine rf_seg C [(.iconst 0, 1), (.istore 2, 1)] (pc' := 185) (S' := ([(2, .int 0), (0, .ref 206), (1, .int a1)], [], rf_MM w m)) (by decide +kernel) rfl trivial ?_
  refine rf_few [1, 2, 0] rfl ?_
  exact s_X14_readOne_185 C hE hrc_X14_readAny rf_fuel a1 0 m hg
theorem s_X14_readOne_154 {w : rf_w} {K : rf_K} {e : Nat} {rc_X14_readAny : rf_m → Option (rf_m ⊕ rf_m)} {r : rf_m ⊕ rf_m} (C : rf_Ctx 14 cX14_readOne 3 (e + 11) (rf_sh w) K) (hE : rf_EndX none K (rf_sh w) (rf_rx w r)) (hrc_X14_readAny : ∀ (m : rf_m) (r : rf_m ⊕ rf_m), rc_X14_readAny m = some r → rf_ConX j_X14_readAny e (rf_sh w) [.ref 206] (rf_MM w m) (rf_rx w r)) (a1 : Int32) (s0 : Int32) (m : rf_m) (hg : g_X14_readOne_154 w rc_X14_readAny a1 s0 m = some r) : rf_V 3 (rf_sh w) K 0 0 154 ([(0, .ref 206), (1, .int a1)], [.int s0], rf_MM w m) := by
  unfold g_X14_readOne_154 at hg
  refine rf_seg C [(.istore 2, 1), (.iload 2, 1), (.iconst (-1), 1)] (pc' := 157) (S' := ([(2, .int s0), (0, .ref 206), (1, .int a1)], [.int ((-1)), .int s0], rf_MM w m)) (by decide +kernel) rfl trivial ?_
  refine rf_icmp_ne C 9 166 (by decide +kernel) (fun hc => ?_) (fun hc => ?_)
  · replace hg := (if_neg hc).symm.trans hg
    refine rf_seg C [(.aload 0, 1)] (pc' := 167) (S' := ([(2, .int s0), (0, .ref 206), (1, .int a1)], [.ref 206], rf_MM w m)) (by decide +kernel) rfl trivial ?_
    obtain ⟨m0, hc0, hg⟩ := rf_bv_some hg
    refine rf_callv C rf_fit0 j_X14_next (ci := 14) (As := []) (rest := []) mw_X14_next (c_X14_next hc0) (by omega) rfl (by decide) lk_14_560 rfl rfl (Nat.le_of_ble_eq_true rfl) (by decide +kernel) ?_
    show rf_V 3 (rf_sh w) K 0 0 170 ([(2, .int s0), (0, .ref 206), (1, .int a1)], [], rf_MM w m0)
    refine rf_seg C [(.aload 0, 1)] (pc' := 171) (S' := ([(2, .int s0), (0, .ref 206), (1, .int a1)], [.ref 206], rf_MM w m0)) (by decide +kernel) rfl trivial ?_
    rcases rf_bx_some hg with ⟨m1, hc1, hg⟩ | ⟨m1, hc1, rfl⟩
    rotate_left
    · exact rf_callvX C j_X14_readSum (ci := 14) (As := []) (rest := []) (r := .inr (233, rf_MM w m1)) mw_X14_readSum (c_X14_readSum hc1) (by omega) rfl (by decide) lk_14_578 rfl rfl (Nat.le_of_ble_eq_true rfl) (by decide +kernel) ⟨⟨_, hE⟩, rfl⟩
    refine rf_callvX C j_X14_readSum (ci := 14) (As := []) (rest := []) (r := .inl (none, rf_MM w m1)) mw_X14_readSum (c_X14_readSum hc1) (by omega) rfl (by decide) lk_14_578 rfl rfl (Nat.le_of_ble_eq_true rfl) (by decide +kernel) ?_
    show rf_V 3 (rf_sh w) K 0 0 174 ([(2, .int s0), (0, .ref 206), (1, .int a1)], [], rf_MM w m1)
    refine rf_seg C [(.aload 0, 1)] (pc' := 175) (S' := ([(2, .int s0), (0, .ref 206), (1, .int a1)], [.ref 206], rf_MM w m1)) (by decide +kernel) rfl trivial ?_
    obtain ⟨k2, hk2, hg⟩ := rf_o_some hg
    refine rf_d_getr C 14 41 (q := k2) rfl rfl hk2 (by decide +kernel) ?_
    obtain ⟨q3, hg⟩ := rf_g_some hg
    obtain ⟨q4, hg⟩ := rf_g_some hg
    obtain ⟨q5, hg⟩ := rf_g_some hg
    obtain ⟨q6, hg⟩ := rf_g_some hg
    obtain ⟨q7, hg⟩ := rf_g_some hg
    show rf_V 3 (rf_sh w) K 0 0 178 ([(2, .int s0), (0, .ref 206), (1, .int a1)], [.ref k2], rf_MM w m1)
    refine rf_seg C [(.iload 2, 1), (.iconst 0, 1)] (pc' := 180) (S' := ([(2, .int s0), (0, .ref 206), (1, .int a1)], [.int 0, .int s0, .ref k2], rf_MM w m1)) (by decide +kernel) rfl trivial ?_
    obtain ⟨m8, hc8, hg⟩ := rf_bv_some hg
    refine rf_callv C rf_fit0 j_X12_put (ci := 12) (As := [.int s0, .int 0]) (rest := []) mw_X12_put (c_X12_put hc8) (by omega) (rf_isO_of q3) (by decide) lk_14_590 rfl rfl (Nat.le_of_ble_eq_true rfl) (by decide +kernel) ?_
    show rf_V 3 (rf_sh w) K 0 0 183 ([(2, .int s0), (0, .ref 206), (1, .int a1)], [], rf_MM w m8)
    refine rf_few [1, 2] rfl ?_
    exact s_X14_readOne_183 C hE hrc_X14_readAny a1 m8 hg
  · replace hg := (if_pos hc).symm.trans hg
    refine rf_seg C [(.aload 0, 1), (.iconst 1, 1)] (pc' := 162) (S' := ([(2, .int s0), (0, .ref 206), (1, .int a1)], [.int 1, .ref 206], rf_MM w m)) (by decide +kernel) rfl trivial ?_
    obtain ⟨m9, hc9, hg⟩ := rf_bv_some hg
    refine rf_callv C rf_fit0 j_X14_stop (ci := 14) (As := [.int 1]) (rest := []) mw_X14_stop (c_X14_stop hc9) (by omega) rfl (by decide) lk_14_566 rfl rfl (Nat.le_of_ble_eq_true rfl) (by decide +kernel) ?_
    show rf_V 3 (rf_sh w) K 0 0 165 ([(2, .int s0), (0, .ref 206), (1, .int a1)], [.ref 233], rf_MM w m9)
    obtain rfl := Option.some.inj hg
    exact rf_xthrow C hE rfl (by decide +kernel)
theorem s_X14_readOne_2_b {w : rf_w} {K : rf_K} {e : Nat} {rc_X14_readAny : rf_m → Option (rf_m ⊕ rf_m)} {r : rf_m ⊕ rf_m} (C : rf_Ctx 14 cX14_readOne 3 (e + 11) (rf_sh w) K) (hE : rf_EndX none K (rf_sh w) (rf_rx w r)) (hrc_X14_readAny : ∀ (m : rf_m) (r : rf_m ⊕ rf_m), rc_X14_readAny m = some r → rf_ConX j_X14_readAny e (rf_sh w) [.ref 206] (rf_MM w m) (rf_rx w r)) {rec2 : Int32 → rf_m → Option (rf_m ⊕ rf_m)} (hr2 : ∀ (a1 : Int32) (m : rf_m), rec2 a1 m = some r → rf_V 3 (rf_sh w) K 0 0 2 ([(0, .ref 206), (1, .int a1)], [], rf_MM w m)) (a1 : Int32) (m : rf_m) (hg : g_X14_readOne_2_b w rc_X14_readAny rec2 a1 m = some r) : rf_V 3 (rf_sh w) K 0 0 2 ([(0, .ref 206), (1, .int a1)], [], rf_MM w m) := by
  unfold g_X14_readOne_2_b at hg
  refine rf_seg C [(.aload 0, 1)] (pc' := 3) (S' := ([(0, .ref 206), (1, .int a1)], [.ref 206], rf_MM w m)) (by decide +kernel) rfl trivial ?_
  refine rf_s_ldcw C 1000020 (idx := 549) (by decide +kernel) (by decide +kernel) ?_
  show rf_V 3 (rf_sh w) K 0 0 6 ([(0, .ref 206), (1, .int a1)], [.ref 1000020, .ref 206], rf_MM w m)
  obtain ⟨y0, m0, hc0, hg⟩ := rf_b_some hg
  refine rf_callv C rf_fit0 j_X14_isWord (ci := 14) (As := [.ref 1000020]) (rest := []) mw_X14_isWord (c_X14_isWord hc0) (by omega) rfl (by decide) lk_14_541 rfl rfl (Nat.le_of_ble_eq_true rfl) (by decide +kernel) ?_
  show rf_V 3 (rf_sh w) K 0 0 9 ([(0, .ref 206), (1, .int a1)], [.int y0], rf_MM w m0)
  refine rf_if_eq C 25 34 (by decide +kernel) (fun hc => ?_) (fun hc => ?_)
  · replace hg := (if_pos hc).symm.trans hg
    refine rf_seg C [(.aload 0, 1), (.iconst 40, 2)] (pc' := 37) (S' := ([(0, .ref 206), (1, .int a1)], [.int 40, .ref 206], rf_MM w m0)) (by decide +kernel) rfl trivial ?_
    obtain ⟨y1, m1, hc1, hg⟩ := rf_b_some hg
    refine rf_callv C rf_fit0 j_X14_is (ci := 14) (As := [.int 40]) (rest := []) mw_X14_is (c_X14_is hc1) (by omega) rfl (by decide) lk_14_596 rfl rfl (Nat.le_of_ble_eq_true rfl) (by decide +kernel) ?_
    show rf_V 3 (rf_sh w) K 0 0 40 ([(0, .ref 206), (1, .int a1)], [.int y1], rf_MM w m1)
    refine rf_if_eq C 68 108 (by decide +kernel) (fun hc => ?_) (fun hc => ?_)
    · replace hg := (if_pos hc).symm.trans hg
      refine rf_seg C [(.aload 0, 1)] (pc' := 109) (S' := ([(0, .ref 206), (1, .int a1)], [.ref 206], rf_MM w m1)) (by decide +kernel) rfl trivial ?_
      rcases rf_bx_some hg with ⟨m2, hc2, hg⟩ | ⟨m2, hc2, rfl⟩
      rotate_left
      · exact rf_callvX C j_X14_readSum (ci := 14) (As := []) (rest := []) (r := .inr (233, rf_MM w m2)) mw_X14_readSum (c_X14_readSum hc2) (by omega) rfl (by decide) lk_14_578 rfl rfl (Nat.le_of_ble_eq_true rfl) (by decide +kernel) ⟨⟨_, hE⟩, rfl⟩
      refine rf_callvX C j_X14_readSum (ci := 14) (As := []) (rest := []) (r := .inl (none, rf_MM w m2)) mw_X14_readSum (c_X14_readSum hc2) (by omega) rfl (by decide) lk_14_578 rfl rfl (Nat.le_of_ble_eq_true rfl) (by decide +kernel) ?_
      show rf_V 3 (rf_sh w) K 0 0 112 ([(0, .ref 206), (1, .int a1)], [], rf_MM w m2)
      refine rf_seg C [(.aload 0, 1), (.iconst 60, 2)] (pc' := 115) (S' := ([(0, .ref 206), (1, .int a1)], [.int 60, .ref 206], rf_MM w m2)) (by decide +kernel) rfl trivial ?_
      obtain ⟨y3, m3, hc3, hg⟩ := rf_b_some hg
      refine rf_callv C rf_fit0 j_X14_is (ci := 14) (As := [.int 60]) (rest := []) mw_X14_is (c_X14_is hc3) (by omega) rfl (by decide) lk_14_596 rfl rfl (Nat.le_of_ble_eq_true rfl) (by decide +kernel) ?_
      show rf_V 3 (rf_sh w) K 0 0 118 ([(0, .ref 206), (1, .int a1)], [.int y3], rf_MM w m3)
      refine rf_if_eq C 7 125 (by decide +kernel) (fun hc => ?_) (fun hc => ?_)
      · replace hg := (if_pos hc).symm.trans hg
        refine rf_seg C [(.aload 0, 1), (.iconst 62, 2)] (pc' := 128) (S' := ([(0, .ref 206), (1, .int a1)], [.int 62, .ref 206], rf_MM w m3)) (by decide +kernel) rfl trivial ?_
        obtain ⟨y4, m4, hc4, hg⟩ := rf_b_some hg
        refine rf_callv C rf_fit0 j_X14_is (ci := 14) (As := [.int 62]) (rest := []) mw_X14_is (c_X14_is hc4) (by omega) rfl (by decide) lk_14_596 rfl rfl (Nat.le_of_ble_eq_true rfl) (by decide +kernel) ?_
        show rf_V 3 (rf_sh w) K 0 0 131 ([(0, .ref 206), (1, .int a1)], [.int y4], rf_MM w m4)
        refine rf_if_eq C 8 139 (by decide +kernel) (fun hc => ?_) (fun hc => ?_)
        · replace hg := (if_pos hc).symm.trans hg
          refine rf_seg C [(.aload 0, 1), (.iconst 61, 2)] (pc' := 142) (S' := ([(0, .ref 206), (1, .int a1)], [.int 61, .ref 206], rf_MM w m4)) (by decide +kernel) rfl trivial ?_
          obtain ⟨y5, m5, hc5, hg⟩ := rf_b_some hg
          refine rf_callv C rf_fit0 j_X14_is (ci := 14) (As := [.int 61]) (rest := []) mw_X14_is (c_X14_is hc5) (by omega) rfl (by decide) lk_14_596 rfl rfl (Nat.le_of_ble_eq_true rfl) (by decide +kernel) ?_
          show rf_V 3 (rf_sh w) K 0 0 145 ([(0, .ref 206), (1, .int a1)], [.int y5], rf_MM w m5)
          refine rf_if_eq C 8 153 (by decide +kernel) (fun hc => ?_) (fun hc => ?_)
          · replace hg := (if_pos hc).symm.trans hg
            refine rf_seg C [(.iconst (-1), 1)] (pc' := 154) (S' := ([(0, .ref 206), (1, .int a1)], [.int ((-1))], rf_MM w m5)) (by decide +kernel) rfl trivial ?_
            refine rf_few [0, 1] rfl ?_
            exact s_X14_readOne_154 C hE hrc_X14_readAny a1 ((-1)) m5 hg
          · replace hg := (if_neg hc).symm.trans hg
            refine rf_seg C [(.iconst 7, 2)] (pc' := 150) (S' := ([(0, .ref 206), (1, .int a1)], [.int 7], rf_MM w m5)) (by decide +kernel) rfl trivial ?_
            refine rf_goto C 4 154 (by decide +kernel) ?_
            refine rf_few [0, 1] rfl ?_
            exact s_X14_readOne_154 C hE hrc_X14_readAny a1 7 m5 hg
        · replace hg := (if_neg hc).symm.trans hg
          refine rf_seg C [(.iconst 6, 2)] (pc' := 136) (S' := ([(0, .ref 206), (1, .int a1)], [.int 6], rf_MM w m4)) (by decide +kernel) rfl trivial ?_
          refine rf_goto C 18 154 (by decide +kernel) ?_
          refine rf_few [0, 1] rfl ?_
          exact s_X14_readOne_154 C hE hrc_X14_readAny a1 6 m4 hg
      · replace hg := (if_neg hc).symm.trans hg
        refine rf_seg C [(.iconst 5, 1)] (pc' := 122) (S' := ([(0, .ref 206), (1, .int a1)], [.int 5], rf_MM w m3)) (by decide +kernel) rfl trivial ?_
        refine rf_goto C 32 154 (by decide +kernel) ?_
        refine rf_few [0, 1] rfl ?_
        exact s_X14_readOne_154 C hE hrc_X14_readAny a1 5 m3 hg
    · replace hg := (if_neg hc).symm.trans hg
      refine rf_seg C [(.aload 0, 1), (.invokeinterface 14 51, 3), (.iconst 8, 2)] (pc' := 49) (S' := ([(0, .ref 206), (1, .int a1)], [.int 8, .int (m1.1 206 51)], rf_MM w m1)) (by decide +kernel) rfl trivial ?_
      refine rf_icmp_ne C 9 58 (by decide +kernel) (fun hc => ?_) (fun hc => ?_)
      · replace hg := (if_neg hc).symm.trans hg
        refine rf_seg C [(.aload 0, 1), (.dup, 1), (.invokeinterface 14 51, 3), (.iconst 1, 1), (.iadd, 1), (.multianewarray 14 51, 3), (.aload 0, 1)] (pc' := 69) (S' := ([(0, .ref 206), (1, .int a1)], [.ref 206], rf_MM w (rf_i m1 206 51 ((m1.1 206 51) + 1)))) (by decide +kernel) rfl trivial ?_
        obtain ⟨m6, hc6, hg⟩ := rf_bv_some hg
        refine rf_callv C rf_fit0 j_X14_next (ci := 14) (As := []) (rest := []) mw_X14_next (c_X14_next hc6) (by omega) rfl (by decide) lk_14_560 rfl rfl (Nat.le_of_ble_eq_true rfl) (by decide +kernel) ?_
        show rf_V 3 (rf_sh w) K 0 0 72 ([(0, .ref 206), (1, .int a1)], [], rf_MM w m6)
        refine rf_seg C [(.aload 0, 1)] (pc' := 73) (S' := ([(0, .ref 206), (1, .int a1)], [.ref 206], rf_MM w m6)) (by decide +kernel) rfl trivial ?_
        rcases rf_bx_some hg with ⟨m7, hc7, hg⟩ | ⟨m7, hc7, rfl⟩
        rotate_left
        · exact rf_callvX C j_X14_readAny (ci := 14) (As := []) (rest := []) (r := .inr (233, rf_MM w m7)) mw_X14_readAny (hrc_X14_readAny _ _ hc7) (by omega) rfl (by decide) lk_14_584 rfl rfl (Nat.le_of_ble_eq_true rfl) (by decide +kernel) ⟨⟨_, hE⟩, rfl⟩
        refine rf_callvX C j_X14_readAny (ci := 14) (As := []) (rest := []) (r := .inl (none, rf_MM w m7)) mw_X14_readAny (hrc_X14_readAny _ _ hc7) (by omega) rfl (by decide) lk_14_584 rfl rfl (Nat.le_of_ble_eq_true rfl) (by decide +kernel) ?_
        show rf_V 3 (rf_sh w) K 0 0 76 ([(0, .ref 206), (1, .int a1)], [], rf_MM w m7)
        refine rf_seg C [(.aload 0, 1), (.iconst 41, 2)] (pc' := 79) (S' := ([(0, .ref 206), (1, .int a1)], [.int 41, .ref 206], rf_MM w m7)) (by decide +kernel) rfl trivial ?_
        obtain ⟨y8, m8, hc8, hg⟩ := rf_b_some hg
        refine rf_callv C rf_fit0 j_X14_is (ci := 14) (As := [.int 41]) (rest := []) mw_X14_is (c_X14_is hc8) (by omega) rfl (by decide) lk_14_596 rfl rfl (Nat.le_of_ble_eq_true rfl) (by decide +kernel) ?_
        show rf_V 3 (rf_sh w) K 0 0 82 ([(0, .ref 206), (1, .int a1)], [.int y8], rf_MM w m8)
        refine rf_if_ne C 9 91 (by decide +kernel) (fun hc => ?_) (fun hc => ?_)
        · replace hg := (if_neg hc).symm.trans hg
          refine rf_seg C [(.aload 0, 1)] (pc' := 92) (S' := ([(0, .ref 206), (1, .int a1)], [.ref 206], rf_MM w m8)) (by decide +kernel) rfl trivial ?_
          obtain ⟨m9, hc9, hg⟩ := rf_bv_some hg
          refine rf_callv C rf_fit0 j_X14_next (ci := 14) (As := []) (rest := []) mw_X14_next (c_X14_next hc9) (by omega) rfl (by decide) lk_14_560 rfl rfl (Nat.le_of_ble_eq_true rfl) (by decide +kernel) ?_
          show rf_V 3 (rf_sh w) K 0 0 95 ([(0, .ref 206), (1, .int a1)], [], rf_MM w m9)
          refine rf_seg C [(.aload 0, 1), (.dup, 1), (.invokeinterface 14 51, 3), (.iconst 1, 1), (.isub, 1), (.multianewarray 14 51, 3)] (pc' := 105) (S' := ([(0, .ref 206), (1, .int a1)], [], rf_MM w (rf_i m9 206 51 ((m9.1 206 51) - 1)))) (by decide +kernel) rfl trivial ?_
          refine rf_goto C 78 183 (by decide +kernel) ?_
          refine rf_few [0, 1] rfl ?_
          exact s_X14_readOne_183 C hE hrc_X14_readAny a1 (rf_i m9 206 51 ((m9.1 206 51) - 1)) hg
        · replace hg := (if_pos hc).symm.trans hg
          refine rf_seg C [(.aload 0, 1), (.iconst 1, 1)] (pc' := 87) (S' := ([(0, .ref 206), (1, .int a1)], [.int 1, .ref 206], rf_MM w m8)) (by decide +kernel) rfl trivial ?_
          obtain ⟨m10, hc10, hg⟩ := rf_bv_some hg
          refine rf_callv C rf_fit0 j_X14_stop (ci := 14) (As := [.int 1]) (rest := []) mw_X14_stop (c_X14_stop hc10) (by omega) rfl (by decide) lk_14_566 rfl rfl (Nat.le_of_ble_eq_true rfl) (by decide +kernel) ?_
          show rf_V 3 (rf_sh w) K 0 0 90 ([(0, .ref 206), (1, .int a1)], [.ref 233], rf_MM w m10)
          obtain rfl := Option.some.inj hg
          exact rf_xthrow C hE rfl (by decide +kernel)
      · replace hg := (if_pos hc).symm.trans hg
        refine rf_seg C [(.aload 0, 1), (.iconst 3, 1)] (pc' := 54) (S' := ([(0, .ref 206), (1, .int a1)], [.int 3, .ref 206], rf_MM w m1)) (by decide +kernel) rfl trivial ?_
        obtain ⟨m11, hc11, hg⟩ := rf_bv_some hg
        refine rf_callv C rf_fit0 j_X14_stop (ci := 14) (As := [.int 3]) (rest := []) mw_X14_stop (c_X14_stop hc11) (by omega) rfl (by decide) lk_14_566 rfl rfl (Nat.le_of_ble_eq_true rfl) (by decide +kernel) ?_
        show rf_V 3 (rf_sh w) K 0 0 57 ([(0, .ref 206), (1, .int a1)], [.ref 233], rf_MM w m11)
        obtain rfl := Option.some.inj hg
        exact rf_xthrow C hE rfl (by decide +kernel)
  · replace hg := (if_neg hc).symm.trans hg
    refine rf_seg C [(.iload 1, 1), (.iconst 8, 2)] (pc' := 15) (S' := ([(0, .ref 206), (1, .int a1)], [.int 8, .int a1], rf_MM w m0)) (by decide +kernel) rfl trivial ?_
    refine rf_icmp_ne C 9 24 (by decide +kernel) (fun hc => ?_) (fun hc => ?_)
    · replace hg := (if_neg hc).symm.trans hg
      refine rf_seg C [(.iinc 1 1, 3), (.aload 0, 1)] (pc' := 28) (S' := ([(1, .int (a1 + 1)), (0, .ref 206)], [.ref 206], rf_MM w m0)) (by decide +kernel) rfl trivial ?_
      obtain ⟨m12, hc12, hg⟩ := rf_bv_some hg
      refine rf_callv C rf_fit0 j_X14_next (ci := 14) (As := []) (rest := []) mw_X14_next (c_X14_next hc12) (by omega) rfl (by decide) lk_14_560 rfl rfl (Nat.le_of_ble_eq_true rfl) (by decide +kernel) ?_
      show rf_V 3 (rf_sh w) K 0 0 31 ([(1, .int (a1 + 1)), (0, .ref 206)], [], rf_MM w m12)
      refine rf_goto C (-29) 2 (by decide +kernel) ?_
      refine rf_few [1, 0] rfl ?_
      exact hr2 (a1 + 1) m12 hg
    · replace hg := (if_pos hc).symm.trans hg
      refine rf_seg C [(.aload 0, 1), (.iconst 3, 1)] (pc' := 20) (S' := ([(0, .ref 206), (1, .int a1)], [.int 3, .ref 206], rf_MM w m0)) (by decide +kernel) rfl trivial ?_
      obtain ⟨m13, hc13, hg⟩ := rf_bv_some hg
      refine rf_callv C rf_fit0 j_X14_stop (ci := 14) (As := [.int 3]) (rest := []) mw_X14_stop (c_X14_stop hc13) (by omega) rfl (by decide) lk_14_566 rfl rfl (Nat.le_of_ble_eq_true rfl) (by decide +kernel) ?_
      show rf_V 3 (rf_sh w) K 0 0 23 ([(0, .ref 206), (1, .int a1)], [.ref 233], rf_MM w m13)
      obtain rfl := Option.some.inj hg
      exact rf_xthrow C hE rfl (by decide +kernel)
theorem s_X14_readOne_2 {w : rf_w} {K : rf_K} {e : Nat} {rc_X14_readAny : rf_m → Option (rf_m ⊕ rf_m)} {r : rf_m ⊕ rf_m} (C : rf_Ctx 14 cX14_readOne 3 (e + 11) (rf_sh w) K) (hE : rf_EndX none K (rf_sh w) (rf_rx w r)) (hrc_X14_readAny : ∀ (m : rf_m) (r : rf_m ⊕ rf_m), rc_X14_readAny m = some r → rf_ConX j_X14_readAny e (rf_sh w) [.ref 206] (rf_MM w m) (rf_rx w r)) (n : Nat) : ∀ (a1 : Int32) (m : rf_m), g_X14_readOne_2 w rc_X14_readAny n a1 m = some r → rf_V 3 (rf_sh w) K 0 0 2 ([(0, .ref 206), (1, .int a1)], [], rf_MM w m) := by
  induction n with
  | zero => intro a1 m hg; cases hg
  | succ n ih => intro a1 m hg; exact s_X14_readOne_2_b C hE hrc_X14_readAny ih a1 m hg
theorem c_X14_readOne {w : rf_w} {e : Nat} {rc_X14_readAny : rf_m → Option (rf_m ⊕ rf_m)} {m : rf_m} {r : rf_m ⊕ rf_m} (hrc_X14_readAny : ∀ (m : rf_m) (r : rf_m ⊕ rf_m), rc_X14_readAny m = some r → rf_ConX j_X14_readAny e (rf_sh w) [.ref 206] (rf_MM w m) (rf_rx w r)) (hg : g_X14_readOne w rc_X14_readAny m = some r) : rf_ConX j_X14_readOne (e + 11) (rf_sh w) [.ref 206] (rf_MM w m) (rf_rx w r) := by
  refine rf_conX j_X14_readOne (e + 11) ⟨by decide +kernel, rfl, Nat.le_of_ble_eq_true rfl⟩ (fun K C hE => ?_)
  unfold g_X14_readOne at hg
  show rf_V 3 (rf_sh w) K 0 0 0 ([(0, .ref 206)], [], rf_MM w m)
  refine rf_seg C [(.iconst 0, 1), (.istore 1, 1)] (pc' := 2) (S' := ([(1, .int 0), (0, .ref 206)], [], rf_MM w m)) (by decide +kernel) rfl trivial ?_
  refine rf_few [1, 0] rfl ?_
  exact s_X14_readOne_2 C hE hrc_X14_readAny rf_fuel 0 m hg
-- X14_readAll
def g_X14_readAll_4_b (w : rf_w) (rc_X14_readAny : rf_m → Option (rf_m ⊕ rf_m)) (rec4 : rf_m → Option (rf_m ⊕ rf_m)) (m : rf_m) : Option (rf_m ⊕ rf_m) := rf_b (g_X14_isWord w m 1000018) fun y0 m0 => (if y0 = 0 then some (.inl m0) else rf_bv (g_X14_next w m0) fun m1 => rf_bx (g_X14_readOne w rc_X14_readAny m1) fun m2 => rf_o (w.2.2 0) fun k3 => rf_g (rf_isO w k3 12) (rf_g (rf_isR w k3 5 (k3 + 1)) (rf_g (rf_isA w (k3 + 1) .int 300) (rf_g (rf_isR w k3 6 (k3 + 2)) (rf_g (rf_isA w (k3 + 2) .int 300) (rf_bv (g_X12_put w m2 k3 9 0) fun m9 => rec4 m9))))))
def g_X14_readAll_4 (w : rf_w) (rc_X14_readAny : rf_m → Option (rf_m ⊕ rf_m)) : Nat → rf_m → Option (rf_m ⊕ rf_m)
  | 0, _ => none
  | n + 1, m => g_X14_readAll_4_b w rc_X14_readAny (g_X14_readAll_4 w rc_X14_readAny n) m
def g_X14_readAll (w : rf_w) (rc_X14_readAny : rf_m → Option (rf_m ⊕ rf_m)) (m : rf_m) : Option (rf_m ⊕ rf_m) := rf_bx (g_X14_readOne w rc_X14_readAny m) fun m0 => g_X14_readAll_4 w rc_X14_readAny rf_fuel m0
theorem s_X14_readAll_4_b {w : rf_w} {K : rf_K} {e : Nat} {rc_X14_readAny : rf_m → Option (rf_m ⊕ rf_m)} {r : rf_m ⊕ rf_m} (C : rf_Ctx 14 cX14_readAll 1 (e + 12) (rf_sh w) K) (hE : rf_EndX none K (rf_sh w) (rf_rx w r)) (hrc_X14_readAny : ∀ (m : rf_m) (r : rf_m ⊕ rf_m), rc_X14_readAny m = some r → rf_ConX j_X14_readAny e (rf_sh w) [.ref 206] (rf_MM w m) (rf_rx w r)) {rec4 : rf_m → Option (rf_m ⊕ rf_m)} (hr4 : ∀ (m : rf_m), rec4 m = some r → rf_V 1 (rf_sh w) K 0 0 4 ([(0, .ref 206)], [], rf_MM w m)) (m : rf_m) (hg : g_X14_readAll_4_b w rc_X14_readAny rec4 m = some r) : rf_V 1 (rf_sh w) K 0 0 4 ([(0, .ref 206)], [], rf_MM w m) := by
  unfold g_X14_readAll_4_b at hg
  refine rf_seg C [(.aload 0, 1)] (pc' := 5) (S' := ([(0, .ref 206)], [.ref 206], rf_MM w m)) (by decide +kernel) rfl trivial ?_
  refine rf_s_ldcw C 1000018 (idx := 545) (by decide +kernel) (by decide +kernel) ?_
  show rf_V 1 (rf_sh w) K 0 0 8 ([(0, .ref 206)], [.ref 1000018, .ref 206], rf_MM w m)
  obtain ⟨y0, m0, hc0, hg⟩ := rf_b_some hg
  refine rf_callv C rf_fit0 j_X14_isWord (ci := 14) (As := [.ref 1000018]) (rest := []) mw_X14_isWord (c_X14_isWord hc0) (by omega) rfl (by decide) lk_14_541 rfl rfl (Nat.le_of_ble_eq_true rfl) (by decide +kernel) ?_
  show rf_V 1 (rf_sh w) K 0 0 11 ([(0, .ref 206)], [.int y0], rf_MM w m0)
  refine rf_if_eq C 24 35 (by decide +kernel) (fun hc => ?_) (fun hc => ?_)
  · replace hg := (if_pos hc).symm.trans hg
    obtain rfl := Option.some.inj hg
    exact rf_xvret C hE (by decide +kernel)
  · replace hg := (if_neg hc).symm.trans hg
    refine rf_seg C [(.aload 0, 1)] (pc' := 15) (S' := ([(0, .ref 206)], [.ref 206], rf_MM w m0)) (by decide +kernel) rfl trivial ?_
    obtain ⟨m1, hc1, hg⟩ := rf_bv_some hg
    refine rf_callv C rf_fit0 j_X14_next (ci := 14) (As := []) (rest := []) mw_X14_next (c_X14_next hc1) (by omega) rfl (by decide) lk_14_560 rfl rfl (Nat.le_of_ble_eq_true rfl) (by decide +kernel) ?_
    show rf_V 1 (rf_sh w) K 0 0 18 ([(0, .ref 206)], [], rf_MM w m1)
    refine rf_seg C [(.aload 0, 1)] (pc' := 19) (S' := ([(0, .ref 206)], [.ref 206], rf_MM w m1)) (by decide +kernel) rfl trivial ?_
    rcases rf_bx_some hg with ⟨m2, hc2, hg⟩ | ⟨m2, hc2, rfl⟩
    rotate_left
    · exact rf_callvX C j_X14_readOne (ci := 14) (As := []) (rest := []) (r := .inr (233, rf_MM w m2)) mw_X14_readOne (c_X14_readOne hrc_X14_readAny hc2) (by omega) rfl (by decide) lk_14_593 rfl rfl (Nat.le_of_ble_eq_true rfl) (by decide +kernel) ⟨⟨_, hE⟩, rfl⟩
    refine rf_callvX C j_X14_readOne (ci := 14) (As := []) (rest := []) (r := .inl (none, rf_MM w m2)) mw_X14_readOne (c_X14_readOne hrc_X14_readAny hc2) (by omega) rfl (by decide) lk_14_593 rfl rfl (Nat.le_of_ble_eq_true rfl) (by decide +kernel) ?_
    show rf_V 1 (rf_sh w) K 0 0 22 ([(0, .ref 206)], [], rf_MM w m2)
    refine rf_seg C [(.aload 0, 1)] (pc' := 23) (S' := ([(0, .ref 206)], [.ref 206], rf_MM w m2)) (by decide +kernel) rfl trivial ?_
    obtain ⟨k3, hk3, hg⟩ := rf_o_some hg
    refine rf_d_getr C 14 41 (q := k3) rfl rfl hk3 (by decide +kernel) ?_
    obtain ⟨q4, hg⟩ := rf_g_some hg
    obtain ⟨q5, hg⟩ := rf_g_some hg
    obtain ⟨q6, hg⟩ := rf_g_some hg
    obtain ⟨q7, hg⟩ := rf_g_some hg
    obtain ⟨q8, hg⟩ := rf_g_some hg
    show rf_V 1 (rf_sh w) K 0 0 26 ([(0, .ref 206)], [.ref k3], rf_MM w m2)
    refine rf_seg C [(.iconst 9, 2), (.iconst 0, 1)] (pc' := 29) (S' := ([(0, .ref 206)], [.int 0, .int 9, .ref k3], rf_MM w m2)) (by decide +kernel) rfl trivial ?_
    obtain ⟨m9, hc9, hg⟩ := rf_bv_some hg
    refine rf_callv C rf_fit0 j_X12_put (ci := 12) (As := [.int 9, .int 0]) (rest := []) mw_X12_put (c_X12_put hc9) (by omega) (rf_isO_of q4) (by decide) lk_14_590 rfl rfl (Nat.le_of_ble_eq_true rfl) (by decide +kernel) ?_
    show rf_V 1 (rf_sh w) K 0 0 32 ([(0, .ref 206)], [], rf_MM w m9)
    refine rf_goto C (-28) 4 (by decide +kernel) ?_
    refine rf_few [0] rfl ?_
    exact hr4 m9 hg
theorem s_X14_readAll_4 {w : rf_w} {K : rf_K} {e : Nat} {rc_X14_readAny : rf_m → Option (rf_m ⊕ rf_m)} {r : rf_m ⊕ rf_m} (C : rf_Ctx 14 cX14_readAll 1 (e + 12) (rf_sh w) K) (hE : rf_EndX none K (rf_sh w) (rf_rx w r)) (hrc_X14_readAny : ∀ (m : rf_m) (r : rf_m ⊕ rf_m), rc_X14_readAny m = some r → rf_ConX j_X14_readAny e (rf_sh w) [.ref 206] (rf_MM w m) (rf_rx w r)) (n : Nat) : ∀ (m : rf_m), g_X14_readAll_4 w rc_X14_readAny n m = some r → rf_V 1 (rf_sh w) K 0 0 4 ([(0, .ref 206)], [], rf_MM w m) := by
  induction n with
  | zero => intro m hg; cases hg
  | succ n ih => intro m hg; exact s_X14_readAll_4_b C hE hrc_X14_readAny ih m hg
theorem c_X14_readAll {w : rf_w} {e : Nat} {rc_X14_readAny : rf_m → Option (rf_m ⊕ rf_m)} {m : rf_m} {r : rf_m ⊕ rf_m} (hrc_X14_readAny : ∀ (m : rf_m) (r : rf_m ⊕ rf_m), rc_X14_readAny m = some r → rf_ConX j_X14_readAny e (rf_sh w) [.ref 206] (rf_MM w m) (rf_rx w r)) (hg : g_X14_readAll w rc_X14_readAny m = some r) : rf_ConX j_X14_readAll (e + 12) (rf_sh w) [.ref 206] (rf_MM w m) (rf_rx w r) := by
  refine rf_conX j_X14_readAll (e + 12) ⟨by decide +kernel, rfl, Nat.le_of_ble_eq_true rfl⟩ (fun K C hE => ?_)
  unfold g_X14_readAll at hg
  show rf_V 1 (rf_sh w) K 0 0 0 ([(0, .ref 206)], [], rf_MM w m)
  refine rf_seg C [(.aload 0, 1)] (pc' := 1) (S' := ([(0, .ref 206)], [.ref 206], rf_MM w m)) (by decide +kernel) rfl trivial ?_
  rcases rf_bx_some hg with ⟨m0, hc0, hg⟩ | ⟨m0, hc0, rfl⟩
  rotate_left
  · exact rf_callvX C j_X14_readOne (ci := 14) (As := []) (rest := []) (r := .inr (233, rf_MM w m0)) mw_X14_readOne (c_X14_readOne hrc_X14_readAny hc0) (by omega) rfl (by decide) lk_14_593 rfl rfl (Nat.le_of_ble_eq_true rfl) (by decide +kernel) ⟨⟨_, hE⟩, rfl⟩
  refine rf_callvX C j_X14_readOne (ci := 14) (As := []) (rest := []) (r := .inl (none, rf_MM w m0)) mw_X14_readOne (c_X14_readOne hrc_X14_readAny hc0) (by omega) rfl (by decide) lk_14_593 rfl rfl (Nat.le_of_ble_eq_true rfl) (by decide +kernel) ?_
  show rf_V 1 (rf_sh w) K 0 0 4 ([(0, .ref 206)], [], rf_MM w m0)
  refine rf_few [0] rfl ?_
  exact s_X14_readAll_4 C hE hrc_X14_readAny rf_fuel m0 hg
-- X14_readAny
def g_X14_readAny_4_b (w : rf_w) (rc_X14_readAny : rf_m → Option (rf_m ⊕ rf_m)) (rec4 : rf_m → Option (rf_m ⊕ rf_m)) (m : rf_m) : Option (rf_m ⊕ rf_m) := rf_b (g_X14_isWord w m 1000019) fun y0 m0 => (if y0 = 0 then some (.inl m0) else rf_bv (g_X14_next w m0) fun m1 => rf_bx (g_X14_readAll w rc_X14_readAny m1) fun m2 => rf_o (w.2.2 0) fun k3 => rf_g (rf_isO w k3 12) (rf_g (rf_isR w k3 5 (k3 + 1)) (rf_g (rf_isA w (k3 + 1) .int 300) (rf_g (rf_isR w k3 6 (k3 + 2)) (rf_g (rf_isA w (k3 + 2) .int 300) (rf_bv (g_X12_put w m2 k3 10 0) fun m9 => rec4 m9))))))
def g_X14_readAny_4 (w : rf_w) (rc_X14_readAny : rf_m → Option (rf_m ⊕ rf_m)) : Nat → rf_m → Option (rf_m ⊕ rf_m)
  | 0, _ => none
  | n + 1, m => g_X14_readAny_4_b w rc_X14_readAny (g_X14_readAny_4 w rc_X14_readAny n) m
def g_X14_readAny_f (w : rf_w) (rc_X14_readAny : rf_m → Option (rf_m ⊕ rf_m)) (m : rf_m) : Option (rf_m ⊕ rf_m) := rf_bx (g_X14_readAll w rc_X14_readAny m) fun m0 => g_X14_readAny_4 w rc_X14_readAny rf_fuel m0
def g_X14_readAny (w : rf_w) : Nat → rf_m → Option (rf_m ⊕ rf_m)
  | 0, _ => none
  | n + 1, m => g_X14_readAny_f w (g_X14_readAny w n) m
theorem s_X14_readAny_4_b {w : rf_w} {K : rf_K} {e : Nat} {rc_X14_readAny : rf_m → Option (rf_m ⊕ rf_m)} {r : rf_m ⊕ rf_m} (C : rf_Ctx 14 cX14_readAny 1 (e + 13) (rf_sh w) K) (hE : rf_EndX none K (rf_sh w) (rf_rx w r)) (hrc_X14_readAny : ∀ (m : rf_m) (r : rf_m ⊕ rf_m), rc_X14_readAny m = some r → rf_ConX j_X14_readAny e (rf_sh w) [.ref 206] (rf_MM w m) (rf_rx w r)) {rec4 : rf_m → Option (rf_m ⊕ rf_m)} (hr4 : ∀ (m : rf_m), rec4 m = some r → rf_V 1 (rf_sh w) K 0 0 4 ([(0, .ref 206)], [], rf_MM w m)) (m : rf_m) (hg : g_X14_readAny_4_b w rc_X14_readAny rec4 m = some r) : rf_V 1 (rf_sh w) K 0 0 4 ([(0, .ref 206)], [], rf_MM w m) := by
  unfold g_X14_readAny_4_b at hg
  refine rf_seg C [(.aload 0, 1)] (pc' := 5) (S' := ([(0, .ref 206)], [.ref 206], rf_MM w m)) (by decide +kernel) rfl trivial ?_
  refine rf_s_ldcw C 1000019 (idx := 547) (by decide +kernel) (by decide +kernel) ?_
  show rf_V 1 (rf_sh w) K 0 0 8 ([(0, .ref 206)], [.ref 1000019, .ref 206], rf_MM w m)
  obtain ⟨y0, m0, hc0, hg⟩ := rf_b_some hg
  refine rf_callv C rf_fit0 j_X14_isWord (ci := 14) (As := [.ref 1000019]) (rest := []) mw_X14_isWord (c_X14_isWord hc0) (by omega) rfl (by decide) lk_14_541 rfl rfl (Nat.le_of_ble_eq_true rfl) (by decide +kernel) ?_
  show rf_V 1 (rf_sh w) K 0 0 11 ([(0, .ref 206)], [.int y0], rf_MM w m0)
  refine rf_if_eq C 24 35 (by decide +kernel) (fun hc => ?_) (fun hc => ?_)
  · replace hg := (if_pos hc).symm.trans hg
    obtain rfl := Option.some.inj hg
    exact rf_xvret C hE (by decide +kernel)
  · replace hg := (if_neg hc).symm.trans hg
    refine rf_seg C [(.aload 0, 1)] (pc' := 15) (S' := ([(0, .ref 206)], [.ref 206], rf_MM w m0)) (by decide +kernel) rfl trivial ?_
    obtain ⟨m1, hc1, hg⟩ := rf_bv_some hg
    refine rf_callv C rf_fit0 j_X14_next (ci := 14) (As := []) (rest := []) mw_X14_next (c_X14_next hc1) (by omega) rfl (by decide) lk_14_560 rfl rfl (Nat.le_of_ble_eq_true rfl) (by decide +kernel) ?_
    show rf_V 1 (rf_sh w) K 0 0 18 ([(0, .ref 206)], [], rf_MM w m1)
    refine rf_seg C [(.aload 0, 1)] (pc' := 19) (S' := ([(0, .ref 206)], [.ref 206], rf_MM w m1)) (by decide +kernel) rfl trivial ?_
    rcases rf_bx_some hg with ⟨m2, hc2, hg⟩ | ⟨m2, hc2, rfl⟩
    rotate_left
    · exact rf_callvX C j_X14_readAll (ci := 14) (As := []) (rest := []) (r := .inr (233, rf_MM w m2)) mw_X14_readAll (c_X14_readAll hrc_X14_readAny hc2) (by omega) rfl (by decide) lk_14_587 rfl rfl (Nat.le_of_ble_eq_true rfl) (by decide +kernel) ⟨⟨_, hE⟩, rfl⟩
    refine rf_callvX C j_X14_readAll (ci := 14) (As := []) (rest := []) (r := .inl (none, rf_MM w m2)) mw_X14_readAll (c_X14_readAll hrc_X14_readAny hc2) (by omega) rfl (by decide) lk_14_587 rfl rfl (Nat.le_of_ble_eq_true rfl) (by decide +kernel) ?_
    show rf_V 1 (rf_sh w) K 0 0 22 ([(0, .ref 206)], [], rf_MM w m2)
    refine rf_seg C [(.aload 0, 1)] (pc' := 23) (S' := ([(0, .ref 206)], [.ref 206], rf_MM w m2)) (by decide +kernel) rfl trivial ?_
    obtain ⟨k3, hk3, hg⟩ := rf_o_some hg
    refine rf_d_getr C 14 41 (q := k3) rfl rfl hk3 (by decide +kernel) ?_
    obtain ⟨q4, hg⟩ := rf_g_some hg
    obtain ⟨q5, hg⟩ := rf_g_some hg
    obtain ⟨q6, hg⟩ := rf_g_some hg
    obtain ⟨q7, hg⟩ := rf_g_some hg
    obtain ⟨q8, hg⟩ := rf_g_some hg
    show rf_V 1 (rf_sh w) K 0 0 26 ([(0, .ref 206)], [.ref k3], rf_MM w m2)
    refine rf_seg C [(.iconst 10, 2), (.iconst 0, 1)] (pc' := 29) (S' := ([(0, .ref 206)], [.int 0, .int 10, .ref k3], rf_MM w m2)) (by decide +kernel) rfl trivial ?_
    obtain ⟨m9, hc9, hg⟩ := rf_bv_some hg
    refine rf_callv C rf_fit0 j_X12_put (ci := 12) (As := [.int 10, .int 0]) (rest := []) mw_X12_put (c_X12_put hc9) (by omega) (rf_isO_of q4) (by decide) lk_14_590 rfl rfl (Nat.le_of_ble_eq_true rfl) (by decide +kernel) ?_
    show rf_V 1 (rf_sh w) K 0 0 32 ([(0, .ref 206)], [], rf_MM w m9)
    refine rf_goto C (-28) 4 (by decide +kernel) ?_
    refine rf_few [0] rfl ?_
    exact hr4 m9 hg
theorem s_X14_readAny_4 {w : rf_w} {K : rf_K} {e : Nat} {rc_X14_readAny : rf_m → Option (rf_m ⊕ rf_m)} {r : rf_m ⊕ rf_m} (C : rf_Ctx 14 cX14_readAny 1 (e + 13) (rf_sh w) K) (hE : rf_EndX none K (rf_sh w) (rf_rx w r)) (hrc_X14_readAny : ∀ (m : rf_m) (r : rf_m ⊕ rf_m), rc_X14_readAny m = some r → rf_ConX j_X14_readAny e (rf_sh w) [.ref 206] (rf_MM w m) (rf_rx w r)) (n : Nat) : ∀ (m : rf_m), g_X14_readAny_4 w rc_X14_readAny n m = some r → rf_V 1 (rf_sh w) K 0 0 4 ([(0, .ref 206)], [], rf_MM w m) := by
  induction n with
  | zero => intro m hg; cases hg
  | succ n ih => intro m hg; exact s_X14_readAny_4_b C hE hrc_X14_readAny ih m hg
theorem c_X14_readAny_f {w : rf_w} {e : Nat} {rc_X14_readAny : rf_m → Option (rf_m ⊕ rf_m)} {m : rf_m} {r : rf_m ⊕ rf_m} (hrc_X14_readAny : ∀ (m : rf_m) (r : rf_m ⊕ rf_m), rc_X14_readAny m = some r → rf_ConX j_X14_readAny e (rf_sh w) [.ref 206] (rf_MM w m) (rf_rx w r)) (hg : g_X14_readAny_f w rc_X14_readAny m = some r) : rf_ConX j_X14_readAny (e + 13) (rf_sh w) [.ref 206] (rf_MM w m) (rf_rx w r) := by
  refine rf_conX j_X14_readAny (e + 13) ⟨by decide +kernel, rfl, Nat.le_of_ble_eq_true rfl⟩ (fun K C hE => ?_)
  unfold g_X14_readAny_f at hg
  show rf_V 1 (rf_sh w) K 0 0 0 ([(0, .ref 206)], [], rf_MM w m)
  refine rf_seg C [(.aload 0, 1)] (pc' := 1) (S' := ([(0, .ref 206)], [.ref 206], rf_MM w m)) (by decide +kernel) rfl trivial ?_
  rcases rf_bx_some hg with ⟨m0, hc0, hg⟩ | ⟨m0, hc0, rfl⟩
  rotate_left
  · exact rf_callvX C j_X14_readAll (ci := 14) (As := []) (rest := []) (r := .inr (233, rf_MM w m0)) mw_X14_readAll (c_X14_readAll hrc_X14_readAny hc0) (by omega) rfl (by decide) lk_14_587 rfl rfl (Nat.le_of_ble_eq_true rfl) (by decide +kernel) ⟨⟨_, hE⟩, rfl⟩
  refine rf_callvX C j_X14_readAll (ci := 14) (As := []) (rest := []) (r := .inl (none, rf_MM w m0)) mw_X14_readAll (c_X14_readAll hrc_X14_readAny hc0) (by omega) rfl (by decide) lk_14_587 rfl rfl (Nat.le_of_ble_eq_true rfl) (by decide +kernel) ?_
  show rf_V 1 (rf_sh w) K 0 0 4 ([(0, .ref 206)], [], rf_MM w m0)
  refine rf_few [0] rfl ?_
  exact s_X14_readAny_4 C hE hrc_X14_readAny rf_fuel m0 hg
theorem c_X14_readAny {w : rf_w} (n : Nat) : ∀ {m : rf_m} {r : rf_m ⊕ rf_m}, g_X14_readAny w n m = some r → rf_ConX j_X14_readAny (n * 13) (rf_sh w) [.ref 206] (rf_MM w m) (rf_rx w r) := by
  induction n with
  | zero => intro m r hg; cases hg
  | succ n ih =>
    intro m r hg
    rw [Nat.succ_mul]
    exact c_X14_readAny_f (e := n * 13) (rc_X14_readAny := g_X14_readAny w n) (fun m r h => ih h) hg
-- X14_reads
def g_X14_reads_200 (w : rf_w) (s0 : Int32) (m : rf_m) : Option (rf_m ⊕ rf_m) := (if s0 = 0 then (if (m.1 206 47) = 1 then some (.inl m) else rf_bv (g_X14_stop w m 1) fun m0 => some (.inr m0)) else rf_b (g_X14_isWord w m 1000017) fun y1 m1 => (if y1 = 0 then rf_bv (g_X14_stop w m1 1) fun m5 => some (.inr m5) else rf_bv (g_X14_next w m1) fun m2 => rf_bx (g_X14_readAny w 16 m2) fun m3 => (if (m3.1 206 47) = 1 then some (.inl m3) else rf_bv (g_X14_stop w m3 1) fun m4 => some (.inr m4))))
def g_X14_reads_195 (w : rf_w) (m : rf_m) : Option (rf_m ⊕ rf_m) := g_X14_reads_200 w 1 m
def g_X14_reads_199 (w : rf_w) (m : rf_m) : Option (rf_m ⊕ rf_m) := g_X14_reads_200 w 0 m
def g_X14_reads_157 (w : rf_w) (a1 : Int32) (m : rf_m) : Option (rf_m ⊕ rf_m) := rf_o (w.2.2 0) fun k0 => rf_g (rf_isO w k0 12) (rf_g (rf_isR w k0 5 (k0 + 1)) (rf_g (rf_isA w (k0 + 1) .int 300) (rf_g (rf_isR w k0 6 (k0 + 2)) (rf_g (rf_isA w (k0 + 2) .int 300) (rf_o (w.2.2 0) fun k6 => rf_g (rf_isO w k6 12) (rf_g (rf_isR w k6 5 (k6 + 1)) (rf_g (rf_isA w (k6 + 1) .int 300) (rf_g (rf_isR w k6 6 (k6 + 2)) (rf_g (rf_isA w (k6 + 2) .int 300) ((if a1 = 0 then g_X14_reads_195 w (rf_i m k0 4 (m.1 k6 3)) else (if a1 = 2 then g_X14_reads_195 w (rf_i m k0 4 (m.1 k6 3)) else (if a1 = 1 then rf_b (g_X14_isWord w (rf_i m k0 4 (m.1 k6 3)) 1000017) fun y12 m12 => (if y12 = 0 then g_X14_reads_199 w m12 else g_X14_reads_195 w m12) else g_X14_reads_199 w (rf_i m k0 4 (m.1 k6 3)))))))))))))))
def g_X14_reads_153 (w : rf_w) (a1 : Int32) (m : rf_m) : Option (rf_m ⊕ rf_m) := rf_bx (g_X14_readSum w m) fun m0 => g_X14_reads_157 w a1 m0
def g_X14_reads_119 (w : rf_w) (s0 : Int32) (m : rf_m) : Option (rf_m ⊕ rf_m) := (if s0 = ((-1)) then rf_bv (g_X14_stop w m 2) fun m7 => some (.inr m7) else rf_o (w.2.2 0) fun k0 => rf_g (rf_isO w k0 12) (rf_g (rf_isR w k0 5 (k0 + 1)) (rf_g (rf_isA w (k0 + 1) .int 300) (rf_g (rf_isR w k0 6 (k0 + 2)) (rf_g (rf_isA w (k0 + 2) .int 300) (rf_bv (g_X14_next w (rf_i m k0 0 s0)) fun m6 => (if s0 = 1 then g_X14_reads_153 w s0 m6 else (if s0 < 3 then g_X14_reads_157 w s0 m6 else g_X14_reads_153 w s0 m6))))))))
def g_X14_reads (w : rf_w) (m : rf_m) : Option (rf_m ⊕ rf_m) := rf_o (w.2.2 0) fun k0 => rf_g (rf_isO w k0 12) (rf_g (rf_isR w k0 5 (k0 + 1)) (rf_g (rf_isA w (k0 + 1) .int 300) (rf_g (rf_isR w k0 6 (k0 + 2)) (rf_g (rf_isA w (k0 + 2) .int 300) (rf_bv (g_X14_next w (rf_i (rf_i (rf_i (rf_i m k0 3 0) 206 51 0) 206 52 0) 206 46 0)) fun m6 => (if (m6.1 206 47) = 2 then rf_b (g_X14_isKept w m6) fun y8 m8 => (if y8 = 0 then rf_b (g_X14_isWord w m8 1000021) fun y9 m9 => (if y9 = 0 then rf_b (g_X14_isWord w m9 1000022) fun y10 m10 => (if y10 = 0 then rf_b (g_X14_isWord w m10 1000023) fun y11 m11 => (if y11 = 0 then rf_b (g_X14_isWord w m11 1000024) fun y12 m12 => (if y12 = 0 then rf_b (g_X14_isWord w m12 1000025) fun y13 m13 => (if y13 = 0 then g_X14_reads_119 w ((-1)) m13 else g_X14_reads_119 w 4 m13) else g_X14_reads_119 w 3 m12) else g_X14_reads_119 w 2 m11) else g_X14_reads_119 w 1 m10) else g_X14_reads_119 w 0 m9) else rf_bv (g_X14_stop w m8 1) fun m14 => some (.inr m14)) else rf_bv (g_X14_stop w m6 1) fun m7 => some (.inr m7)))))))
theorem s_X14_reads_200 {w : rf_w} {K : rf_K} {r : rf_m ⊕ rf_m} (C : rf_Ctx 14 cX14_reads 3 209 (rf_sh w) K) (hE : rf_EndX none K (rf_sh w) (rf_rx w r)) (s0 : Int32) (m : rf_m) (hg : g_X14_reads_200 w s0 m = some r) : rf_V 3 (rf_sh w) K 0 0 200 ([(0, .ref 206)], [.int s0], rf_MM w m) := by
  unfold g_X14_reads_200 at hg
  refine rf_seg C [(.istore 2, 1), (.iload 2, 1)] (pc' := 202) (S' := ([(2, .int s0), (0, .ref 206)], [.int s0], rf_MM w m)) (by decide +kernel) rfl trivial ?_
  refine rf_if_eq C 27 229 (by decide +kernel) (fun hc => ?_) (fun hc => ?_)
  · replace hg := (if_pos hc).symm.trans hg
    refine rf_seg C [(.aload 0, 1), (.invokeinterface 14 47, 3), (.iconst 1, 1)] (pc' := 234) (S' := ([(2, .int s0), (0, .ref 206)], [.int 1, .int (m.1 206 47)], rf_MM w m)) (by decide +kernel) rfl trivial ?_
    refine rf_icmp_eq C 9 243 (by decide +kernel) (fun hc => ?_) (fun hc => ?_)
    · replace hg := (if_pos hc).symm.trans hg
      obtain rfl := Option.some.inj hg
      exact rf_xvret C hE (by decide +kernel)
    · replace hg := (if_neg hc).symm.trans hg
      refine rf_seg C [(.aload 0, 1), (.iconst 1, 1)] (pc' := 239) (S' := ([(2, .int s0), (0, .ref 206)], [.int 1, .ref 206], rf_MM w m)) (by decide +kernel) rfl trivial ?_
      obtain ⟨m0, hc0, hg⟩ := rf_bv_some hg
      refine rf_callv C rf_fit0 j_X14_stop (ci := 14) (As := [.int 1]) (rest := []) mw_X14_stop (c_X14_stop hc0) (by decide) rfl (by decide) lk_14_566 rfl rfl (Nat.le_of_ble_eq_true rfl) (by decide +kernel) ?_
      show rf_V 3 (rf_sh w) K 0 0 242 ([(2, .int s0), (0, .ref 206)], [.ref 233], rf_MM w m0)
      obtain rfl := Option.some.inj hg
      exact rf_xthrow C hE rfl (by decide +kernel)
  · replace hg := (if_neg hc).symm.trans hg
    refine rf_seg C [(.aload 0, 1)] (pc' := 206) (S' := ([(2, .int s0), (0, .ref 206)], [.ref 206], rf_MM w m)) (by decide +kernel) rfl trivial ?_
    refine rf_s_ldcw C 1000017 (idx := 539) (by decide +kernel) (by decide +kernel) ?_
    show rf_V 3 (rf_sh w) K 0 0 209 ([(2, .int s0), (0, .ref 206)], [.ref 1000017, .ref 206], rf_MM w m)
    obtain ⟨y1, m1, hc1, hg⟩ := rf_b_some hg
    refine rf_callv C rf_fit0 j_X14_isWord (ci := 14) (As := [.ref 1000017]) (rest := []) mw_X14_isWord (c_X14_isWord hc1) (by decide) rfl (by decide) lk_14_541 rfl rfl (Nat.le_of_ble_eq_true rfl) (by decide +kernel) ?_
    show rf_V 3 (rf_sh w) K 0 0 212 ([(2, .int s0), (0, .ref 206)], [.int y1], rf_MM w m1)
    refine rf_if_ne C 9 221 (by decide +kernel) (fun hc => ?_) (fun hc => ?_)
    · replace hg := (if_neg hc).symm.trans hg
      refine rf_seg C [(.aload 0, 1)] (pc' := 222) (S' := ([(2, .int s0), (0, .ref 206)], [.ref 206], rf_MM w m1)) (by decide +kernel) rfl trivial ?_
      obtain ⟨m2, hc2, hg⟩ := rf_bv_some hg
      refine rf_callv C rf_fit0 j_X14_next (ci := 14) (As := []) (rest := []) mw_X14_next (c_X14_next hc2) (by decide) rfl (by decide) lk_14_560 rfl rfl (Nat.le_of_ble_eq_true rfl) (by decide +kernel) ?_
      show rf_V 3 (rf_sh w) K 0 0 225 ([(2, .int s0), (0, .ref 206)], [], rf_MM w m2)
      refine rf_seg C [(.aload 0, 1)] (pc' := 226) (S' := ([(2, .int s0), (0, .ref 206)], [.ref 206], rf_MM w m2)) (by decide +kernel) rfl trivial ?_
      rcases rf_bx_some hg with ⟨m3, hc3, hg⟩ | ⟨m3, hc3, rfl⟩
      rotate_left
      · exact rf_callvX C j_X14_readAny (ci := 14) (As := []) (rest := []) (r := .inr (233, rf_MM w m3)) mw_X14_readAny (c_X14_readAny 16 hc3) (by decide) rfl (by decide) lk_14_584 rfl rfl (Nat.le_of_ble_eq_true rfl) (by decide +kernel) ⟨⟨_, hE⟩, rfl⟩
      refine rf_callvX C j_X14_readAny (ci := 14) (As := []) (rest := []) (r := .inl (none, rf_MM w m3)) mw_X14_readAny (c_X14_readAny 16 hc3) (by decide) rfl (by decide) lk_14_584 rfl rfl (Nat.le_of_ble_eq_true rfl) (by decide +kernel) ?_
      show rf_V 3 (rf_sh w) K 0 0 229 ([(2, .int s0), (0, .ref 206)], [], rf_MM w m3)
      refine rf_seg C [(.aload 0, 1), (.invokeinterface 14 47, 3), (.iconst 1, 1)] (pc' := 234) (S' := ([(2, .int s0), (0, .ref 206)], [.int 1, .int (m3.1 206 47)], rf_MM w m3)) (by decide +kernel) rfl trivial ?_
      refine rf_icmp_eq C 9 243 (by decide +kernel) (fun hc => ?_) (fun hc => ?_)
      · replace hg := (if_pos hc).symm.trans hg
        obtain rfl := Option.some.inj hg
        exact rf_xvret C hE (by decide +kernel)
      · replace hg := (if_neg hc).symm.trans hg
        refine rf_seg C [(.aload 0, 1), (.iconst 1, 1)] (pc' := 239) (S' := ([(2, .int s0), (0, .ref 206)], [.int 1, .ref 206], rf_MM w m3)) (by decide +kernel) rfl trivial ?_
        obtain ⟨m4, hc4, hg⟩ := rf_bv_some hg
        refine rf_callv C rf_fit0 j_X14_stop (ci := 14) (As := [.int 1]) (rest := []) mw_X14_stop (c_X14_stop hc4) (by decide) rfl (by decide) lk_14_566 rfl rfl (Nat.le_of_ble_eq_true rfl) (by decide +kernel) ?_
        show rf_V 3 (rf_sh w) K 0 0 242 ([(2, .int s0), (0, .ref 206)], [.ref 233], rf_MM w m4)
        obtain rfl := Option.some.inj hg
        exact rf_xthrow C hE rfl (by decide +kernel)
    · replace hg := (if_pos hc).symm.trans hg
      refine rf_seg C [(.aload 0, 1), (.iconst 1, 1)] (pc' := 217) (S' := ([(2, .int s0), (0, .ref 206)], [.int 1, .ref 206], rf_MM w m1)) (by decide +kernel) rfl trivial ?_
      obtain ⟨m5, hc5, hg⟩ := rf_bv_some hg
      refine rf_callv C rf_fit0 j_X14_stop (ci := 14) (As := [.int 1]) (rest := []) mw_X14_stop (c_X14_stop hc5) (by decide) rfl (by decide) lk_14_566 rfl rfl (Nat.le_of_ble_eq_true rfl) (by decide +kernel) ?_
      show rf_V 3 (rf_sh w) K 0 0 220 ([(2, .int s0), (0, .ref 206)], [.ref 233], rf_MM w m5)
      obtain rfl := Option.some.inj hg
      exact rf_xthrow C hE rfl (by decide +kernel)
theorem s_X14_reads_195 {w : rf_w} {K : rf_K} {r : rf_m ⊕ rf_m} (C : rf_Ctx 14 cX14_reads 3 209 (rf_sh w) K) (hE : rf_EndX none K (rf_sh w) (rf_rx w r)) (m : rf_m) (hg : g_X14_reads_195 w m = some r) : rf_V 3 (rf_sh w) K 0 0 195 ([(0, .ref 206)], [], rf_MM w m) := by
  unfold g_X14_reads_195 at hg
  refine rf_seg C [(.iconst 1, 1)] (pc' := 196) (S' := ([(0, .ref 206)], [.int 1], rf_MM w m)) (by decide +kernel) rfl trivial ?_
  refine rf_goto C 4 200 (by decide +kernel) ?_
  refine rf_few [0] rfl ?_
  exact s_X14_reads_200 C hE 1 m hg
theorem s_X14_reads_199 {w : rf_w} {K : rf_K} {r : rf_m ⊕ rf_m} (C : rf_Ctx 14 cX14_reads 3 209 (rf_sh w) K) (hE : rf_EndX none K (rf_sh w) (rf_rx w r)) (m : rf_m) (hg : g_X14_reads_199 w m = some r) : rf_V 3 (rf_sh w) K 0 0 199 ([(0, .ref 206)], [], rf_MM w m) := by
  unfold g_X14_reads_199 at hg
  refine rf_seg C [(.iconst 0, 1)] (pc' := 200) (S' := ([(0, .ref 206)], [.int 0], rf_MM w m)) (by decide +kernel) rfl trivial ?_
  refine rf_few [0] rfl ?_
  exact s_X14_reads_200 C hE 0 m hg
theorem s_X14_reads_157 {w : rf_w} {K : rf_K} {r : rf_m ⊕ rf_m} (C : rf_Ctx 14 cX14_reads 3 209 (rf_sh w) K) (hE : rf_EndX none K (rf_sh w) (rf_rx w r)) (a1 : Int32) (m : rf_m) (hg : g_X14_reads_157 w a1 m = some r) : rf_V 3 (rf_sh w) K 0 0 157 ([(0, .ref 206), (1, .int a1)], [], rf_MM w m) := by
  unfold g_X14_reads_157 at hg
  refine rf_seg C [(.aload 0, 1)] (pc' := 158) (S' := ([(0, .ref 206), (1, .int a1)], [.ref 206], rf_MM w m)) (by decide +kernel) rfl trivial ?_
  obtain ⟨k0, hk0, hg⟩ := rf_o_some hg
  refine rf_d_getr C 14 41 (q := k0) rfl rfl hk0 (by decide +kernel) ?_
  obtain ⟨q1, hg⟩ := rf_g_some hg
  obtain ⟨q2, hg⟩ := rf_g_some hg
  obtain ⟨q3, hg⟩ := rf_g_some hg
  obtain ⟨q4, hg⟩ := rf_g_some hg
  obtain ⟨q5, hg⟩ := rf_g_some hg
  show rf_V 3 (rf_sh w) K 0 0 161 ([(0, .ref 206), (1, .int a1)], [.ref k0], rf_MM w m)
  refine rf_seg C [(.aload 0, 1)] (pc' := 162) (S' := ([(0, .ref 206), (1, .int a1)], [.ref 206, .ref k0], rf_MM w m)) (by decide +kernel) rfl trivial ?_
  obtain ⟨k6, hk6, hg⟩ := rf_o_some hg
  refine rf_d_getr C 14 41 (q := k6) rfl rfl hk6 (by decide +kernel) ?_
  obtain ⟨q7, hg⟩ := rf_g_some hg
  obtain ⟨q8, hg⟩ := rf_g_some hg
  obtain ⟨q9, hg⟩ := rf_g_some hg
  obtain ⟨q10, hg⟩ := rf_g_some hg
  obtain ⟨q11, hg⟩ := rf_g_some hg
  show rf_V 3 (rf_sh w) K 0 0 165 ([(0, .ref 206), (1, .int a1)], [.ref k6, .ref k0], rf_MM w m)
  refine rf_d_get C 12 3 (rf_isO_of q7) (by decide +kernel) ?_
  show rf_V 3 (rf_sh w) K 0 0 168 ([(0, .ref 206), (1, .int a1)], [.int (m.1 k6 3), .ref k0], rf_MM w m)
  refine rf_d_put C 12 4 (rf_isO_of q1) rfl (by decide +kernel) ?_
  show rf_V 3 (rf_sh w) K 0 0 171 ([(0, .ref 206), (1, .int a1)], [], rf_MM w (rf_i m k0 4 (m.1 k6 3)))
  refine rf_seg C [(.iload 1, 1)] (pc' := 172) (S' := ([(0, .ref 206), (1, .int a1)], [.int a1], rf_MM w (rf_i m k0 4 (m.1 k6 3)))) (by decide +kernel) rfl trivial ?_
  refine rf_if_eq C 23 195 (by decide +kernel) (fun hc => ?_) (fun hc => ?_)
  · replace hg := (if_pos hc).symm.trans hg
    refine rf_few [0] rfl ?_
    exact s_X14_reads_195 C hE (rf_i m k0 4 (m.1 k6 3)) hg
  · replace hg := (if_neg hc).symm.trans hg
    refine rf_seg C [(.iload 1, 1), (.iconst 2, 1)] (pc' := 177) (S' := ([(0, .ref 206), (1, .int a1)], [.int 2, .int a1], rf_MM w (rf_i m k0 4 (m.1 k6 3)))) (by decide +kernel) rfl trivial ?_
    refine rf_icmp_eq C 18 195 (by decide +kernel) (fun hc => ?_) (fun hc => ?_)
    · replace hg := (if_pos hc).symm.trans hg
      refine rf_few [0] rfl ?_
      exact s_X14_reads_195 C hE (rf_i m k0 4 (m.1 k6 3)) hg
    · replace hg := (if_neg hc).symm.trans hg
      refine rf_seg C [(.iload 1, 1), (.iconst 1, 1)] (pc' := 182) (S' := ([(0, .ref 206), (1, .int a1)], [.int 1, .int a1], rf_MM w (rf_i m k0 4 (m.1 k6 3)))) (by decide +kernel) rfl trivial ?_
      refine rf_icmp_ne C 17 199 (by decide +kernel) (fun hc => ?_) (fun hc => ?_)
      · replace hg := (if_neg hc).symm.trans hg
        refine rf_few [0] rfl ?_
        exact s_X14_reads_199 C hE (rf_i m k0 4 (m.1 k6 3)) hg
      · replace hg := (if_pos hc).symm.trans hg
        refine rf_seg C [(.aload 0, 1)] (pc' := 186) (S' := ([(0, .ref 206), (1, .int a1)], [.ref 206], rf_MM w (rf_i m k0 4 (m.1 k6 3)))) (by decide +kernel) rfl trivial ?_
        refine rf_s_ldcw C 1000017 (idx := 539) (by decide +kernel) (by decide +kernel) ?_
        show rf_V 3 (rf_sh w) K 0 0 189 ([(0, .ref 206), (1, .int a1)], [.ref 1000017, .ref 206], rf_MM w (rf_i m k0 4 (m.1 k6 3)))
        obtain ⟨y12, m12, hc12, hg⟩ := rf_b_some hg
        refine rf_callv C rf_fit0 j_X14_isWord (ci := 14) (As := [.ref 1000017]) (rest := []) mw_X14_isWord (c_X14_isWord hc12) (by decide) rfl (by decide) lk_14_541 rfl rfl (Nat.le_of_ble_eq_true rfl) (by decide +kernel) ?_
        show rf_V 3 (rf_sh w) K 0 0 192 ([(0, .ref 206), (1, .int a1)], [.int y12], rf_MM w m12)
        refine rf_if_eq C 7 199 (by decide +kernel) (fun hc => ?_) (fun hc => ?_)
        · replace hg := (if_pos hc).symm.trans hg
          refine rf_few [0] rfl ?_
          exact s_X14_reads_199 C hE m12 hg
        · replace hg := (if_neg hc).symm.trans hg
          refine rf_few [0] rfl ?_
          exact s_X14_reads_195 C hE m12 hg
theorem s_X14_reads_153 {w : rf_w} {K : rf_K} {r : rf_m ⊕ rf_m} (C : rf_Ctx 14 cX14_reads 3 209 (rf_sh w) K) (hE : rf_EndX none K (rf_sh w) (rf_rx w r)) (a1 : Int32) (m : rf_m) (hg : g_X14_reads_153 w a1 m = some r) : rf_V 3 (rf_sh w) K 0 0 153 ([(0, .ref 206), (1, .int a1)], [], rf_MM w m) := by
  unfold g_X14_reads_153 at hg
  refine rf_seg C [(.aload 0, 1)] (pc' := 154) (S' := ([(0, .ref 206), (1, .int a1)], [.ref 206], rf_MM w m)) (by decide +kernel) rfl trivial ?_
  rcases rf_bx_some hg with ⟨m0, hc0, hg⟩ | ⟨m0, hc0, rfl⟩
  rotate_left
  · exact rf_callvX C j_X14_readSum (ci := 14) (As := []) (rest := []) (r := .inr (233, rf_MM w m0)) mw_X14_readSum (c_X14_readSum hc0) (by decide) rfl (by decide) lk_14_578 rfl rfl (Nat.le_of_ble_eq_true rfl) (by decide +kernel) ⟨⟨_, hE⟩, rfl⟩
  refine rf_callvX C j_X14_readSum (ci := 14) (As := []) (rest := []) (r := .inl (none, rf_MM w m0)) mw_X14_readSum (c_X14_readSum hc0) (by decide) rfl (by decide) lk_14_578 rfl rfl (Nat.le_of_ble_eq_true rfl) (by decide +kernel) ?_
  show rf_V 3 (rf_sh w) K 0 0 157 ([(0, .ref 206), (1, .int a1)], [], rf_MM w m0)
  refine rf_few [0, 1] rfl ?_
  exact s_X14_reads_157 C hE a1 m0 hg
theorem s_X14_reads_119 {w : rf_w} {K : rf_K} {r : rf_m ⊕ rf_m} (C : rf_Ctx 14 cX14_reads 3 209 (rf_sh w) K) (hE : rf_EndX none K (rf_sh w) (rf_rx w r)) (s0 : Int32) (m : rf_m) (hg : g_X14_reads_119 w s0 m = some r) : rf_V 3 (rf_sh w) K 0 0 119 ([(0, .ref 206)], [.int s0], rf_MM w m) := by
  unfold g_X14_reads_119 at hg
  refine rf_seg C [(.istore 1, 1), (.iload 1, 1), (.iconst (-1), 1)] (pc' := 122) (S' := ([(1, .int s0), (0, .ref 206)], [.int ((-1)), .int s0], rf_MM w m)) (by decide +kernel) rfl trivial ?_
  refine rf_icmp_ne C 9 131 (by decide +kernel) (fun hc => ?_) (fun hc => ?_)
  · replace hg := (if_neg hc).symm.trans hg
    refine rf_seg C [(.aload 0, 1)] (pc' := 132) (S' := ([(1, .int s0), (0, .ref 206)], [.ref 206], rf_MM w m)) (by decide +kernel) rfl trivial ?_
    obtain ⟨k0, hk0, hg⟩ := rf_o_some hg
    refine rf_d_getr C 14 41 (q := k0) rfl rfl hk0 (by decide +kernel) ?_
    obtain ⟨q1, hg⟩ := rf_g_some hg
    obtain ⟨q2, hg⟩ := rf_g_some hg
    obtain ⟨q3, hg⟩ := rf_g_some hg
    obtain ⟨q4, hg⟩ := rf_g_some hg
    obtain ⟨q5, hg⟩ := rf_g_some hg
    show rf_V 3 (rf_sh w) K 0 0 135 ([(1, .int s0), (0, .ref 206)], [.ref k0], rf_MM w m)
    refine rf_seg C [(.iload 1, 1)] (pc' := 136) (S' := ([(1, .int s0), (0, .ref 206)], [.int s0, .ref k0], rf_MM w m)) (by decide +kernel) rfl trivial ?_
    refine rf_d_put C 12 0 (rf_isO_of q1) rfl (by decide +kernel) ?_
    show rf_V 3 (rf_sh w) K 0 0 139 ([(1, .int s0), (0, .ref 206)], [], rf_MM w (rf_i m k0 0 s0))
    refine rf_seg C [(.aload 0, 1)] (pc' := 140) (S' := ([(1, .int s0), (0, .ref 206)], [.ref 206], rf_MM w (rf_i m k0 0 s0))) (by decide +kernel) rfl trivial ?_
    obtain ⟨m6, hc6, hg⟩ := rf_bv_some hg
    refine rf_callv C rf_fit0 j_X14_next (ci := 14) (As := []) (rest := []) mw_X14_next (c_X14_next hc6) (by decide) rfl (by decide) lk_14_560 rfl rfl (Nat.le_of_ble_eq_true rfl) (by decide +kernel) ?_
    show rf_V 3 (rf_sh w) K 0 0 143 ([(1, .int s0), (0, .ref 206)], [], rf_MM w m6)
    refine rf_seg C [(.iload 1, 1), (.iconst 1, 1)] (pc' := 145) (S' := ([(1, .int s0), (0, .ref 206)], [.int 1, .int s0], rf_MM w m6)) (by decide +kernel) rfl trivial ?_
    refine rf_icmp_eq C 8 153 (by decide +kernel) (fun hc => ?_) (fun hc => ?_)
    · replace hg := (if_pos hc).symm.trans hg
      refine rf_few [1, 0] rfl ?_
      exact s_X14_reads_153 C hE s0 m6 hg
    · replace hg := (if_neg hc).symm.trans hg
      refine rf_seg C [(.iload 1, 1), (.iconst 3, 1)] (pc' := 150) (S' := ([(1, .int s0), (0, .ref 206)], [.int 3, .int s0], rf_MM w m6)) (by decide +kernel) rfl trivial ?_
      refine rf_icmp_lt C 7 157 (by decide +kernel) (fun hc => ?_) (fun hc => ?_)
      · replace hg := (if_pos hc).symm.trans hg
        refine rf_few [1, 0] rfl ?_
        exact s_X14_reads_157 C hE s0 m6 hg
      · replace hg := (if_neg hc).symm.trans hg
        refine rf_few [1, 0] rfl ?_
        exact s_X14_reads_153 C hE s0 m6 hg
  · replace hg := (if_pos hc).symm.trans hg
    refine rf_seg C [(.aload 0, 1), (.iconst 2, 1)] (pc' := 127) (S' := ([(1, .int s0), (0, .ref 206)], [.int 2, .ref 206], rf_MM w m)) (by decide +kernel) rfl trivial ?_
    obtain ⟨m7, hc7, hg⟩ := rf_bv_some hg
    refine rf_callv C rf_fit0 j_X14_stop (ci := 14) (As := [.int 2]) (rest := []) mw_X14_stop (c_X14_stop hc7) (by decide) rfl (by decide) lk_14_566 rfl rfl (Nat.le_of_ble_eq_true rfl) (by decide +kernel) ?_
    show rf_V 3 (rf_sh w) K 0 0 130 ([(1, .int s0), (0, .ref 206)], [.ref 233], rf_MM w m7)
    obtain rfl := Option.some.inj hg
    exact rf_xthrow C hE rfl (by decide +kernel)
theorem c_X14_reads {w : rf_w} {m : rf_m} {r : rf_m ⊕ rf_m} (hg : g_X14_reads w m = some r) : rf_ConX j_X14_reads 209 (rf_sh w) [.ref 206] (rf_MM w m) (rf_rx w r) := by
  refine rf_conX j_X14_reads 209 ⟨by decide +kernel, rfl, Nat.le_of_ble_eq_true rfl⟩ (fun K C hE => ?_)
  unfold g_X14_reads at hg
  show rf_V 3 (rf_sh w) K 0 0 0 ([(0, .ref 206)], [], rf_MM w m)
  refine rf_seg C [(.aload 0, 1)] (pc' := 1) (S' := ([(0, .ref 206)], [.ref 206], rf_MM w m)) (by decide +kernel) rfl trivial ?_
  obtain ⟨k0, hk0, hg⟩ := rf_o_some hg
  refine rf_d_getr C 14 41 (q := k0) rfl rfl hk0 (by decide +kernel) ?_
  obtain ⟨q1, hg⟩ := rf_g_some hg
  obtain ⟨q2, hg⟩ := rf_g_some hg
  obtain ⟨q3, hg⟩ := rf_g_some hg
  obtain ⟨q4, hg⟩ := rf_g_some hg
  obtain ⟨q5, hg⟩ := rf_g_some hg
  show rf_V 3 (rf_sh w) K 0 0 4 ([(0, .ref 206)], [.ref k0], rf_MM w m)
  refine rf_seg C [(.iconst 0, 1)] (pc' := 5) (S' := ([(0, .ref 206)], [.int 0, .ref k0], rf_MM w m)) (by decide +kernel) rfl trivial ?_
  refine rf_d_put C 12 3 (rf_isO_of q1) rfl (by decide +kernel) ?_
  show rf_V 3 (rf_sh w) K 0 0 8 ([(0, .ref 206)], [], rf_MM w (rf_i m k0 3 0))
  refine rf_seg C [(.aload 0, 1), (.iconst 0, 1), (.multianewarray 14 51, 3), (.aload 0, 1), (.iconst 0, 1), (.multianewarray 14 52, 3), (.aload 0, 1), (.iconst 0, 1), (.multianewarray 14 46, 3), (.aload 0, 1)] (pc' := 24) (S' := ([(0, .ref 206)], [.ref 206], rf_MM w (rf_i (rf_i (rf_i (rf_i m k0 3 0) 206 51 0) 206 52 0) 206 46 0))) (by decide +kernel) rfl trivial ?_
  obtain ⟨m6, hc6, hg⟩ := rf_bv_some hg
  refine rf_callv C rf_fit0 j_X14_next (ci := 14) (As := []) (rest := []) mw_X14_next (c_X14_next hc6) (by decide) rfl (by decide) lk_14_560 rfl rfl (Nat.le_of_ble_eq_true rfl) (by decide +kernel) ?_
  show rf_V 3 (rf_sh w) K 0 0 27 ([(0, .ref 206)], [], rf_MM w m6)
  refine rf_seg C [(.aload 0, 1), (.invokeinterface 14 47, 3), (.iconst 2, 1)] (pc' := 32) (S' := ([(0, .ref 206)], [.int 2, .int (m6.1 206 47)], rf_MM w m6)) (by decide +kernel) rfl trivial ?_
  refine rf_icmp_ne C 10 42 (by decide +kernel) (fun hc => ?_) (fun hc => ?_)
  · replace hg := (if_neg hc).symm.trans hg
    refine rf_seg C [(.aload 0, 1), (.iconst 1, 1)] (pc' := 44) (S' := ([(0, .ref 206)], [.int 1, .ref 206], rf_MM w m6)) (by decide +kernel) rfl trivial ?_
    obtain ⟨m7, hc7, hg⟩ := rf_bv_some hg
    refine rf_callv C rf_fit0 j_X14_stop (ci := 14) (As := [.int 1]) (rest := []) mw_X14_stop (c_X14_stop hc7) (by decide) rfl (by decide) lk_14_566 rfl rfl (Nat.le_of_ble_eq_true rfl) (by decide +kernel) ?_
    show rf_V 3 (rf_sh w) K 0 0 47 ([(0, .ref 206)], [.ref 233], rf_MM w m7)
    obtain rfl := Option.some.inj hg
    exact rf_xthrow C hE rfl (by decide +kernel)
  · replace hg := (if_pos hc).symm.trans hg
    refine rf_seg C [(.aload 0, 1)] (pc' := 36) (S' := ([(0, .ref 206)], [.ref 206], rf_MM w m6)) (by decide +kernel) rfl trivial ?_
    obtain ⟨y8, m8, hc8, hg⟩ := rf_b_some hg
    refine rf_callv C rf_fit0 j_X14_isKept (ci := 14) (As := []) (rest := []) mw_X14_isKept (c_X14_isKept hc8) (by decide) rfl (by decide) lk_14_563 rfl rfl (Nat.le_of_ble_eq_true rfl) (by decide +kernel) ?_
    show rf_V 3 (rf_sh w) K 0 0 39 ([(0, .ref 206)], [.int y8], rf_MM w m8)
    refine rf_if_eq C 9 48 (by decide +kernel) (fun hc => ?_) (fun hc => ?_)
    · replace hg := (if_pos hc).symm.trans hg
      refine rf_seg C [(.aload 0, 1)] (pc' := 49) (S' := ([(0, .ref 206)], [.ref 206], rf_MM w m8)) (by decide +kernel) rfl trivial ?_
      refine rf_s_ldcw C 1000021 (idx := 569) (by decide +kernel) (by decide +kernel) ?_
      show rf_V 3 (rf_sh w) K 0 0 52 ([(0, .ref 206)], [.ref 1000021, .ref 206], rf_MM w m8)
      obtain ⟨y9, m9, hc9, hg⟩ := rf_b_some hg
      refine rf_callv C rf_fit0 j_X14_isWord (ci := 14) (As := [.ref 1000021]) (rest := []) mw_X14_isWord (c_X14_isWord hc9) (by decide) rfl (by decide) lk_14_541 rfl rfl (Nat.le_of_ble_eq_true rfl) (by decide +kernel) ?_
      show rf_V 3 (rf_sh w) K 0 0 55 ([(0, .ref 206)], [.int y9], rf_MM w m9)
      refine rf_if_eq C 7 62 (by decide +kernel) (fun hc => ?_) (fun hc => ?_)
      · replace hg := (if_pos hc).symm.trans hg
        refine rf_seg C [(.aload 0, 1)] (pc' := 63) (S' := ([(0, .ref 206)], [.ref 206], rf_MM w m9)) (by decide +kernel) rfl trivial ?_
        refine rf_s_ldcw C 1000022 (idx := 571) (by decide +kernel) (by decide +kernel) ?_
        show rf_V 3 (rf_sh w) K 0 0 66 ([(0, .ref 206)], [.ref 1000022, .ref 206], rf_MM w m9)
        obtain ⟨y10, m10, hc10, hg⟩ := rf_b_some hg
        refine rf_callv C rf_fit0 j_X14_isWord (ci := 14) (As := [.ref 1000022]) (rest := []) mw_X14_isWord (c_X14_isWord hc10) (by decide) rfl (by decide) lk_14_541 rfl rfl (Nat.le_of_ble_eq_true rfl) (by decide +kernel) ?_
        show rf_V 3 (rf_sh w) K 0 0 69 ([(0, .ref 206)], [.int y10], rf_MM w m10)
        refine rf_if_eq C 7 76 (by decide +kernel) (fun hc => ?_) (fun hc => ?_)
        · replace hg := (if_pos hc).symm.trans hg
          refine rf_seg C [(.aload 0, 1)] (pc' := 77) (S' := ([(0, .ref 206)], [.ref 206], rf_MM w m10)) (by decide +kernel) rfl trivial ?_
          refine rf_s_ldcw C 1000023 (idx := 573) (by decide +kernel) (by decide +kernel) ?_
          show rf_V 3 (rf_sh w) K 0 0 80 ([(0, .ref 206)], [.ref 1000023, .ref 206], rf_MM w m10)
          obtain ⟨y11, m11, hc11, hg⟩ := rf_b_some hg
          refine rf_callv C rf_fit0 j_X14_isWord (ci := 14) (As := [.ref 1000023]) (rest := []) mw_X14_isWord (c_X14_isWord hc11) (by decide) rfl (by decide) lk_14_541 rfl rfl (Nat.le_of_ble_eq_true rfl) (by decide +kernel) ?_
          show rf_V 3 (rf_sh w) K 0 0 83 ([(0, .ref 206)], [.int y11], rf_MM w m11)
          refine rf_if_eq C 7 90 (by decide +kernel) (fun hc => ?_) (fun hc => ?_)
          · replace hg := (if_pos hc).symm.trans hg
            refine rf_seg C [(.aload 0, 1)] (pc' := 91) (S' := ([(0, .ref 206)], [.ref 206], rf_MM w m11)) (by decide +kernel) rfl trivial ?_
            refine rf_s_ldcw C 1000024 (idx := 575) (by decide +kernel) (by decide +kernel) ?_
            show rf_V 3 (rf_sh w) K 0 0 94 ([(0, .ref 206)], [.ref 1000024, .ref 206], rf_MM w m11)
            obtain ⟨y12, m12, hc12, hg⟩ := rf_b_some hg
            refine rf_callv C rf_fit0 j_X14_isWord (ci := 14) (As := [.ref 1000024]) (rest := []) mw_X14_isWord (c_X14_isWord hc12) (by decide) rfl (by decide) lk_14_541 rfl rfl (Nat.le_of_ble_eq_true rfl) (by decide +kernel) ?_
            show rf_V 3 (rf_sh w) K 0 0 97 ([(0, .ref 206)], [.int y12], rf_MM w m12)
            refine rf_if_eq C 7 104 (by decide +kernel) (fun hc => ?_) (fun hc => ?_)
            · replace hg := (if_pos hc).symm.trans hg
              refine rf_seg C [(.aload 0, 1)] (pc' := 105) (S' := ([(0, .ref 206)], [.ref 206], rf_MM w m12)) (by decide +kernel) rfl trivial ?_
              refine rf_s_ldcw C 1000025 (idx := 576) (by decide +kernel) (by decide +kernel) ?_
              show rf_V 3 (rf_sh w) K 0 0 108 ([(0, .ref 206)], [.ref 1000025, .ref 206], rf_MM w m12)
              obtain ⟨y13, m13, hc13, hg⟩ := rf_b_some hg
              refine rf_callv C rf_fit0 j_X14_isWord (ci := 14) (As := [.ref 1000025]) (rest := []) mw_X14_isWord (c_X14_isWord hc13) (by decide) rfl (by decide) lk_14_541 rfl rfl (Nat.le_of_ble_eq_true rfl) (by decide +kernel) ?_
              show rf_V 3 (rf_sh w) K 0 0 111 ([(0, .ref 206)], [.int y13], rf_MM w m13)
              refine rf_if_eq C 7 118 (by decide +kernel) (fun hc => ?_) (fun hc => ?_)
              · replace hg := (if_pos hc).symm.trans hg
                refine rf_seg C [(.iconst (-1), 1)] (pc' := 119) (S' := ([(0, .ref 206)], [.int ((-1))], rf_MM w m13)) (by decide +kernel) rfl trivial ?_
                refine rf_few [0] rfl ?_
                exact s_X14_reads_119 C hE ((-1)) m13 hg
              · replace hg := (if_neg hc).symm.trans hg
                refine rf_seg C [(.iconst 4, 1)] (pc' := 115) (S' := ([(0, .ref 206)], [.int 4], rf_MM w m13)) (by decide +kernel) rfl trivial ?_
                refine rf_goto C 4 119 (by decide +kernel) ?_
                refine rf_few [0] rfl ?_
                exact s_X14_reads_119 C hE 4 m13 hg
            · replace hg := (if_neg hc).symm.trans hg
              refine rf_seg C [(.iconst 3, 1)] (pc' := 101) (S' := ([(0, .ref 206)], [.int 3], rf_MM w m12)) (by decide +kernel) rfl trivial ?_
              refine rf_goto C 18 119 (by decide +kernel) ?_
              refine rf_few [0] rfl ?_
              exact s_X14_reads_119 C hE 3 m12 hg
          · replace hg := (if_neg hc).symm.trans hg
            refine rf_seg C [(.iconst 2, 1)] (pc' := 87) (S' := ([(0, .ref 206)], [.int 2], rf_MM w m11)) (by decide +kernel) rfl trivial ?_
            refine rf_goto C 32 119 (by decide +kernel) ?_
            refine rf_few [0] rfl ?_
            exact s_X14_reads_119 C hE 2 m11 hg
        · replace hg := (if_neg hc).symm.trans hg
          refine rf_seg C [(.iconst 1, 1)] (pc' := 73) (S' := ([(0, .ref 206)], [.int 1], rf_MM w m10)) (by decide +kernel) rfl trivial ?_
          refine rf_goto C 46 119 (by decide +kernel) ?_
          refine rf_few [0] rfl ?_
          exact s_X14_reads_119 C hE 1 m10 hg
      · replace hg := (if_neg hc).symm.trans hg
        refine rf_seg C [(.iconst 0, 1)] (pc' := 59) (S' := ([(0, .ref 206)], [.int 0], rf_MM w m9)) (by decide +kernel) rfl trivial ?_
        refine rf_goto C 60 119 (by decide +kernel) ?_
        refine rf_few [0] rfl ?_
        exact s_X14_reads_119 C hE 0 m9 hg
    · replace hg := (if_neg hc).symm.trans hg
      refine rf_seg C [(.aload 0, 1), (.iconst 1, 1)] (pc' := 44) (S' := ([(0, .ref 206)], [.int 1, .ref 206], rf_MM w m8)) (by decide +kernel) rfl trivial ?_
      obtain ⟨m14, hc14, hg⟩ := rf_bv_some hg
      refine rf_callv C rf_fit0 j_X14_stop (ci := 14) (As := [.int 1]) (rest := []) mw_X14_stop (c_X14_stop hc14) (by decide) rfl (by decide) lk_14_566 rfl rfl (Nat.le_of_ble_eq_true rfl) (by decide +kernel) ?_
      show rf_V 3 (rf_sh w) K 0 0 47 ([(0, .ref 206)], [.ref 233], rf_MM w m14)
      obtain rfl := Option.some.inj hg
      exact rf_xthrow C hE rfl (by decide +kernel)
