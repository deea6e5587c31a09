/-! methods as functions, and their contracts (written by wip/tool/gen.py) -/
-- X8_takeOperand
abbrev j_X8_takeOperand : rf_J := (8, yX8_takeOperand, cX8_takeOperand, 2, none)
theorem mw_X8_takeOperand : rf_mv j_X8_takeOperand (rf_R 8) 0 := ⟨⟨rf_mem 44 (by decide +kernel), rf_mem 44 (by decide +kernel), rf_mem 2 (by decide +kernel), rf_mem 44 (by decide +kernel)⟩, by decide +kernel, by decide⟩
def g_X8_takeOperand_57 (w : rf_w) (a1 : Int32) (m : rf_m) : Option (rf_m) := (if (m.1 14 14) < 30 then (if ((rf_i m 14 14 ((m.1 14 14) + 1)).1 14 10) = 3 then rf_bv (g_X8_write w (rf_i m 14 14 ((m.1 14 14) + 1)) ((rf_i m 14 14 ((m.1 14 14) + 1)).1 14 11)) fun m1 => some (rf_i m1 14 12 4) else rf_bv (g_X8_write w (rf_i m 14 14 ((m.1 14 14) + 1)) (((-1)) - a1)) fun m0 => some (rf_i m0 14 12 4)) else rf_bv (g_X8_fail w m 3) fun m2 => some m2)
def g_X8_takeOperand_36 (w : rf_w) (a1 : Int32) (m : rf_m) : Option (rf_m) := (if (m.1 14 10) = 2 then (if a1 = ((-1)) then rf_bv (g_X8_fail w m 2) fun m0 => some m0 else g_X8_takeOperand_57 w a1 m) else g_X8_takeOperand_57 w a1 m)
def g_X8_takeOperand (w : rf_w) (m : rf_m) : Option (rf_m) := rf_b (g_X8_nameHere w m) fun y0 m0 => (if (m0.1 14 10) = 3 then g_X8_takeOperand_36 w y0 m0 else (if (m0.1 14 10) = 2 then rf_b (g_X8_isJoint w m0) fun y2 m2 => (if y2 = 0 then g_X8_takeOperand_36 w y0 m2 else rf_bv (g_X8_fail w m2 1) fun m3 => some m3) else rf_bv (g_X8_fail w m0 1) fun m1 => some m1))
theorem s_X8_takeOperand_57 {w : rf_w} {K : rf_K} {r : rf_m} (C : rf_Ctx 8 cX8_takeOperand 2 7 (rf_sh w) K) (hE : rf_End none K (rf_sh w) 0 0 none (rf_MM w r)) (a1 : Int32) (m : rf_m) (hg : g_X8_takeOperand_57 w a1 m = some r) : rf_V 2 (rf_sh w) K 0 0 57 ([(0, .ref 14), (1, .int a1)], [], rf_MM w m) := by
  unfold g_X8_takeOperand_57 at hg
  refine rf_seg C [(.aload 0, 1), (.invokeinterface 8 14, 3), (.iconst 30, 2)] (pc' := 63) (S' := ([(0, .ref 14), (1, .int a1)], [.int 30, .int (m.1 14 14)], rf_MM w m)) (by decide +kernel) rfl trivial ?_
  refine rf_icmp_lt C 11 74 (by decide +kernel) (fun hc => ?_) (fun hc => ?_)
  · replace hg := (if_pos hc).symm.trans hg
    refine rf_seg C [(.aload 0, 1), (.dup, 1), (.invokeinterface 8 14, 3), (.iconst 1, 1), (.iadd, 1), (.multianewarray 8 14, 3), (.aload 0, 1), (.aload 0, 1), (.invokeinterface 8 10, 3), (.iconst 3, 1)] (pc' := 90) (S' := ([(0, .ref 14), (1, .int a1)], [.int 3, .int ((rf_i m 14 14 ((m.1 14 14) + 1)).1 14 10), .ref 14], rf_MM w (rf_i m 14 14 ((m.1 14 14) + 1)))) (by decide +kernel) rfl trivial ?_
    refine rf_icmp_ne C 10 100 (by decide +kernel) (fun hc => ?_) (fun hc => ?_)
    · replace hg := (if_neg hc).symm.trans hg
      refine rf_seg C [(.iconst (-1), 1), (.iload 1, 1), (.isub, 1)] (pc' := 103) (S' := ([(0, .ref 14), (1, .int a1)], [.int (((-1)) - a1), .ref 14], rf_MM w (rf_i m 14 14 ((m.1 14 14) + 1)))) (by decide +kernel) rfl trivial ?_
      obtain ⟨m0, hc0, hg⟩ := rf_bv_some hg
      refine rf_callv C rf_fit0 j_X8_write (ci := 8) (As := [.int (((-1)) - a1)]) (rest := []) mw_X8_write (c_X8_write hc0) (by decide) rfl (by decide) lk_8_123 rfl rfl (Nat.le_of_ble_eq_true rfl) (by decide +kernel) ?_
      show rf_V 2 (rf_sh w) K 0 0 106 ([(0, .ref 14), (1, .int a1)], [], rf_MM w m0)
      refine rf_seg C [(.aload 0, 1), (.iconst 4, 1), (.multianewarray 8 12, 3)] (pc' := 111) (S' := ([(0, .ref 14), (1, .int a1)], [], rf_MM w (rf_i m0 14 12 4))) (by decide +kernel) rfl trivial ?_
      obtain rfl := Option.some.inj hg
      exact rf_vret C hE (by decide +kernel)
    · replace hg := (if_pos hc).symm.trans hg
      refine rf_seg C [(.aload 0, 1), (.invokeinterface 8 11, 3)] (pc' := 97) (S' := ([(0, .ref 14), (1, .int a1)], [.int ((rf_i m 14 14 ((m.1 14 14) + 1)).1 14 11), .ref 14], rf_MM w (rf_i m 14 14 ((m.1 14 14) + 1)))) (by decide +kernel) rfl trivial ?_
      refine rf_goto C 6 103 (by decide +kernel) ?_
      obtain ⟨m1, hc1, hg⟩ := rf_bv_some hg
      refine rf_callv C rf_fit0 j_X8_write (ci := 8) (As := [.int ((rf_i m 14 14 ((m.1 14 14) + 1)).1 14 11)]) (rest := []) mw_X8_write (c_X8_write hc1) (by decide) rfl (by decide) lk_8_123 rfl rfl (Nat.le_of_ble_eq_true rfl) (by decide +kernel) ?_
      show rf_V 2 (rf_sh w) K 0 0 106 ([(0, .ref 14), (1, .int a1)], [], rf_MM w m1)
      refine rf_seg C [(.aload 0, 1), (.iconst 4, 1), (.multianewarray 8 12, 3)] (pc' := 111) (S' := ([(0, .ref 14), (1, .int a1)], [], rf_MM w (rf_i m1 14 12 4))) (by decide +kernel) rfl trivial ?_
      obtain rfl := Option.some.inj hg
      exact rf_vret C hE (by decide +kernel)
  · replace hg := (if_neg hc).symm.trans hg
    refine rf_seg C [(.aload 0, 1), (.iconst 3, 1)] (pc' := 68) (S' := ([(0, .ref 14), (1, .int a1)], [.int 3, .ref 14], rf_MM w m)) (by decide +kernel) rfl trivial ?_
    obtain ⟨m2, hc2, hg⟩ := rf_bv_some hg
    refine rf_callv C rf_fit0 j_X8_fail (ci := 8) (As := [.int 3]) (rest := []) mw_X8_fail (c_X8_fail hc2) (by decide) rfl (by decide) lk_8_96 rfl rfl (Nat.le_of_ble_eq_true rfl) (by decide +kernel) ?_
    show rf_V 2 (rf_sh w) K 0 0 71 ([(0, .ref 14), (1, .int a1)], [], rf_MM w m2)
    refine rf_goto C 40 111 (by decide +kernel) ?_
    obtain rfl := Option.some.inj hg
    exact rf_vret C hE (by decide +kernel)
theorem s_X8_takeOperand_36 {w : rf_w} {K : rf_K} {r : rf_m} (C : rf_Ctx 8 cX8_takeOperand 2 7 (rf_sh w) K) (hE : rf_End none K (rf_sh w) 0 0 none (rf_MM w r)) (a1 : Int32) (m : rf_m) (hg : g_X8_takeOperand_36 w a1 m = some r) : rf_V 2 (rf_sh w) K 0 0 36 ([(0, .ref 14), (1, .int a1)], [], rf_MM w m) := by
  unfold g_X8_takeOperand_36 at hg
  refine rf_seg C [(.aload 0, 1), (.invokeinterface 8 10, 3), (.iconst 2, 1)] (pc' := 41) (S' := ([(0, .ref 14), (1, .int a1)], [.int 2, .int (m.1 14 10)], rf_MM w m)) (by decide +kernel) rfl trivial ?_
  refine rf_icmp_ne C 16 57 (by decide +kernel) (fun hc => ?_) (fun hc => ?_)
  · replace hg := (if_neg hc).symm.trans hg
    refine rf_few [0, 1] rfl ?_
    exact s_X8_takeOperand_57 C hE a1 m hg
  · replace hg := (if_pos hc).symm.trans hg
    refine rf_seg C [(.iload 1, 1), (.iconst (-1), 1)] (pc' := 46) (S' := ([(0, .ref 14), (1, .int a1)], [.int ((-1)), .int a1], rf_MM w m)) (by decide +kernel) rfl trivial ?_
    refine rf_icmp_ne C 11 57 (by decide +kernel) (fun hc => ?_) (fun hc => ?_)
    · replace hg := (if_neg hc).symm.trans hg
      refine rf_few [0, 1] rfl ?_
      exact s_X8_takeOperand_57 C hE a1 m hg
    · replace hg := (if_pos hc).symm.trans hg
      refine rf_seg C [(.aload 0, 1), (.iconst 2, 1)] (pc' := 51) (S' := ([(0, .ref 14), (1, .int a1)], [.int 2, .ref 14], rf_MM w m)) (by decide +kernel) rfl trivial ?_
      obtain ⟨m0, hc0, hg⟩ := rf_bv_some hg
      refine rf_callv C rf_fit0 j_X8_fail (ci := 8) (As := [.int 2]) (rest := []) mw_X8_fail (c_X8_fail hc0) (by decide) rfl (by decide) lk_8_96 rfl rfl (Nat.le_of_ble_eq_true rfl) (by decide +kernel) ?_
      show rf_V 2 (rf_sh w) K 0 0 54 ([(0, .ref 14), (1, .int a1)], [], rf_MM w m0)
      refine rf_goto C 57 111 (by decide +kernel) ?_
      obtain rfl := Option.some.inj hg
      exact rf_vret C hE (by decide +kernel)
theorem c_X8_takeOperand {w : rf_w} {m : rf_m} {r : rf_m} (hg : g_X8_takeOperand w m = some r) : rf_Con j_X8_takeOperand 7 (rf_sh w) [.ref 14] (rf_MM w m) none (rf_MM w r) := by
  refine rf_con j_X8_takeOperand 7 ⟨by decide +kernel, rfl, Nat.le_of_ble_eq_true rfl⟩ (fun K C hE => ?_)
  unfold g_X8_takeOperand at hg
  show rf_V 2 (rf_sh w) K 0 0 0 ([(0, .ref 14)], [], rf_MM w m)
  refine rf_seg C [(.aload 0, 1)] (pc' := 1) (S' := ([(0, .ref 14)], [.ref 14], rf_MM w m)) (by decide +kernel) rfl trivial ?_
  obtain ⟨y0, m0, hc0, hg⟩ := rf_b_some hg
  refine rf_callv C rf_fit0 j_X8_nameHere (ci := 8) (As := []) (rest := []) mw_X8_nameHere (c_X8_nameHere hc0) (by decide) rfl (by decide) lk_8_117 rfl rfl (Nat.le_of_ble_eq_true rfl) (by decide +kernel) ?_
  show rf_V 2 (rf_sh w) K 0 0 4 ([(0, .ref 14)], [.int y0], rf_MM w m0)
  refine rf_seg C [(.istore 1, 1), (.aload 0, 1), (.invokeinterface 8 10, 3), (.iconst 3, 1)] (pc' := 10) (S' := ([(1, .int y0), (0, .ref 14)], [.int 3, .int (m0.1 14 10)], rf_MM w m0)) (by decide +kernel) rfl trivial ?_
  refine rf_icmp_eq C 26 36 (by decide +kernel) (fun hc => ?_) (fun hc => ?_)
  · replace hg := (if_pos hc).symm.trans hg
    refine rf_few [1, 0] rfl ?_
    exact s_X8_takeOperand_36 C hE y0 m0 hg
  · replace hg := (if_neg hc).symm.trans hg
    refine rf_seg C [(.aload 0, 1), (.invokeinterface 8 10, 3), (.iconst 2, 1)] (pc' := 18) (S' := ([(1, .int y0), (0, .ref 14)], [.int 2, .int (m0.1 14 10)], rf_MM w m0)) (by decide +kernel) rfl trivial ?_
    refine rf_icmp_ne C 10 28 (by decide +kernel) (fun hc => ?_) (fun hc => ?_)
    · replace hg := (if_neg hc).symm.trans hg
      refine rf_seg C [(.aload 0, 1), (.iconst 1, 1)] (pc' := 30) (S' := ([(1, .int y0), (0, .ref 14)], [.int 1, .ref 14], rf_MM w m0)) (by decide +kernel) rfl trivial ?_
      obtain ⟨m1, hc1, hg⟩ := rf_bv_some hg
      refine rf_callv C rf_fit0 j_X8_fail (ci := 8) (As := [.int 1]) (rest := []) mw_X8_fail (c_X8_fail hc1) (by decide) rfl (by decide) lk_8_96 rfl rfl (Nat.le_of_ble_eq_true rfl) (by decide +kernel) ?_
      show rf_V 2 (rf_sh w) K 0 0 33 ([(1, .int y0), (0, .ref 14)], [], rf_MM w m1)
      refine rf_goto C 78 111 (by decide +kernel) ?_
      obtain rfl := Option.some.inj hg
      exact rf_vret C hE (by decide +kernel)
    · replace hg := (if_pos hc).symm.trans hg
      refine rf_seg C [(.aload 0, 1)] (pc' := 22) (S' := ([(1, .int y0), (0, .ref 14)], [.ref 14], rf_MM w m0)) (by decide +kernel) rfl trivial ?_
      obtain ⟨y2, m2, hc2, hg⟩ := rf_b_some hg
      refine rf_callv C rf_fit0 j_X8_isJoint (ci := 8) (As := []) (rest := []) mw_X8_isJoint (c_X8_isJoint hc2) (by decide) rfl (by decide) lk_8_92 rfl rfl (Nat.le_of_ble_eq_true rfl) (by decide +kernel) ?_
      show rf_V 2 (rf_sh w) K 0 0 25 ([(1, .int y0), (0, .ref 14)], [.int y2], rf_MM w m2)
      refine rf_if_eq C 11 36 (by decide +kernel) (fun hc => ?_) (fun hc => ?_)
      · replace hg := (if_pos hc).symm.trans hg
        refine rf_few [1, 0] rfl ?_
        exact s_X8_takeOperand_36 C hE y0 m2 hg
      · replace hg := (if_neg hc).symm.trans hg
        refine rf_seg C [(.aload 0, 1), (.iconst 1, 1)] (pc' := 30) (S' := ([(1, .int y0), (0, .ref 14)], [.int 1, .ref 14], rf_MM w m2)) (by decide +kernel) rfl trivial ?_
        obtain ⟨m3, hc3, hg⟩ := rf_bv_some hg
        refine rf_callv C rf_fit0 j_X8_fail (ci := 8) (As := [.int 1]) (rest := []) mw_X8_fail (c_X8_fail hc3) (by decide) rfl (by decide) lk_8_96 rfl rfl (Nat.le_of_ble_eq_true rfl) (by decide +kernel) ?_
        show rf_V 2 (rf_sh w) K 0 0 33 ([(1, .int y0), (0, .ref 14)], [], rf_MM w m3)
        refine rf_goto C 78 111 (by decide +kernel) ?_
        obtain rfl := Option.some.inj hg
        exact rf_vret C hE (by decide +kernel)
-- X8_takeOne
abbrev j_X8_takeOne : rf_J := (8, yX8_takeOne, cX8_takeOne, 1, none)
theorem mw_X8_takeOne : rf_mv j_X8_takeOne (rf_R 8) 0 := ⟨⟨rf_mem 43 (by decide +kernel), rf_mem 43 (by decide +kernel), rf_mem 2 (by decide +kernel), rf_mem 43 (by decide +kernel)⟩, by decide +kernel, by decide⟩
def g_X8_takeOne (w : rf_w) (m : rf_m) : Option (rf_m) := rf_b (g_X8_isWord w m 1000009) fun y0 m0 => (if y0 = 0 then (if (m0.1 14 10) = 40 then rf_bv (g_X8_takeBracket w m0) fun m2 => some m2 else rf_bv (g_X8_takeOperand w (rf_i (rf_i m0 14 15 0) 14 13 1)) fun m1 => some m1) else rf_bv (g_X8_takeNot w m0) fun m3 => some m3)
theorem c_X8_takeOne {w : rf_w} {m : rf_m} {r : rf_m} (hg : g_X8_takeOne w m = some r) : rf_Con j_X8_takeOne 8 (rf_sh w) [.ref 14] (rf_MM w m) none (rf_MM w r) := by
  refine rf_con j_X8_takeOne 8 ⟨by decide +kernel, rfl, Nat.le_of_ble_eq_true rfl⟩ (fun K C hE => ?_)
  unfold g_X8_takeOne at hg
  show rf_V 1 (rf_sh w) K 0 0 0 ([(0, .ref 14)], [], rf_MM w m)
  refine rf_seg C [(.aload 0, 1)] (pc' := 1) (S' := ([(0, .ref 14)], [.ref 14], rf_MM w m)) (by decide +kernel) rfl trivial ?_
  refine rf_s_ldc C 1000009 (idx := 106) (by decide +kernel) (by decide +kernel) ?_
  show rf_V 1 (rf_sh w) K 0 0 3 ([(0, .ref 14)], [.ref 1000009, .ref 14], rf_MM w m)
  obtain ⟨y0, m0, hc0, hg⟩ := rf_b_some hg
  refine rf_callv C rf_fit0 j_X8_isWord (ci := 8) (As := [.ref 1000009]) (rest := []) mw_X8_isWord (c_X8_isWord hc0) (by decide) rfl (by decide) lk_8_102 rfl rfl (Nat.le_of_ble_eq_true rfl) (by decide +kernel) ?_
  show rf_V 1 (rf_sh w) K 0 0 6 ([(0, .ref 14)], [.int y0], rf_MM w m0)
  refine rf_if_eq C 10 16 (by decide +kernel) (fun hc => ?_) (fun hc => ?_)
  · replace hg := (if_pos hc).symm.trans hg
    refine rf_seg C [(.aload 0, 1), (.invokeinterface 8 10, 3), (.iconst 40, 2)] (pc' := 22) (S' := ([(0, .ref 14)], [.int 40, .int (m0.1 14 10)], rf_MM w m0)) (by decide +kernel) rfl trivial ?_
    refine rf_icmp_ne C 10 32 (by decide +kernel) (fun hc => ?_) (fun hc => ?_)
    · replace hg := (if_neg hc).symm.trans hg
      refine rf_seg C [(.aload 0, 1), (.iconst 0, 1), (.multianewarray 8 15, 3), (.aload 0, 1), (.iconst 1, 1), (.multianewarray 8 13, 3), (.aload 0, 1)] (pc' := 43) (S' := ([(0, .ref 14)], [.ref 14], rf_MM w (rf_i (rf_i m0 14 15 0) 14 13 1))) (by decide +kernel) rfl trivial ?_
      obtain ⟨m1, hc1, hg⟩ := rf_bv_some hg
      refine rf_callv C rf_fit0 j_X8_takeOperand (ci := 8) (As := []) (rest := []) mw_X8_takeOperand (c_X8_takeOperand hc1) (by decide) rfl (by decide) lk_8_73 rfl rfl (Nat.le_of_ble_eq_true rfl) (by decide +kernel) ?_
      show rf_V 1 (rf_sh w) K 0 0 46 ([(0, .ref 14)], [], rf_MM w m1)
      obtain rfl := Option.some.inj hg
      exact rf_vret C hE (by decide +kernel)
    · replace hg := (if_pos hc).symm.trans hg
      refine rf_seg C [(.aload 0, 1)] (pc' := 26) (S' := ([(0, .ref 14)], [.ref 14], rf_MM w m0)) (by decide +kernel) rfl trivial ?_
      obtain ⟨m2, hc2, hg⟩ := rf_bv_some hg
      refine rf_callv C rf_fit0 j_X8_takeBracket (ci := 8) (As := []) (rest := []) mw_X8_takeBracket (c_X8_takeBracket hc2) (by decide) rfl (by decide) lk_8_111 rfl rfl (Nat.le_of_ble_eq_true rfl) (by decide +kernel) ?_
      show rf_V 1 (rf_sh w) K 0 0 29 ([(0, .ref 14)], [], rf_MM w m2)
      refine rf_goto C 17 46 (by decide +kernel) ?_
      obtain rfl := Option.some.inj hg
      exact rf_vret C hE (by decide +kernel)
  · replace hg := (if_neg hc).symm.trans hg
    refine rf_seg C [(.aload 0, 1)] (pc' := 10) (S' := ([(0, .ref 14)], [.ref 14], rf_MM w m0)) (by decide +kernel) rfl trivial ?_
    obtain ⟨m3, hc3, hg⟩ := rf_bv_some hg
    refine rf_callv C rf_fit0 j_X8_takeNot (ci := 8) (As := []) (rest := []) mw_X8_takeNot (c_X8_takeNot hc3) (by decide) rfl (by decide) lk_8_108 rfl rfl (Nat.le_of_ble_eq_true rfl) (by decide +kernel) ?_
    show rf_V 1 (rf_sh w) K 0 0 13 ([(0, .ref 14)], [], rf_MM w m3)
    refine rf_goto C 33 46 (by decide +kernel) ?_
    obtain rfl := Option.some.inj hg
    exact rf_vret C hE (by decide +kernel)
-- X8_actHere
abbrev j_X8_actHere : rf_J := (8, yX8_actHere, cX8_actHere, 1, (some .int))
theorem mw_X8_actHere : rf_mv j_X8_actHere (rf_R 8) 0 := ⟨⟨rf_mem 42 (by decide +kernel), rf_mem 42 (by decide +kernel), rf_mem 2 (by decide +kernel), rf_mem 42 (by decide +kernel)⟩, by decide +kernel, by decide⟩
def g_X8_actHere (w : rf_w) (m : rf_m) : Option (Int32 × rf_m) := rf_b (g_X8_isWord w m 1000001) fun y0 m0 => (if y0 = 0 then rf_b (g_X8_isWord w m0 1000002) fun y1 m1 => (if y1 = 0 then rf_b (g_X8_isWord w m1 1000003) fun y2 m2 => (if y2 = 0 then rf_b (g_X8_isWord w m2 1000004) fun y3 m3 => (if y3 = 0 then rf_b (g_X8_isWord w m3 1000005) fun y4 m4 => (if y4 = 0 then some (0, m4) else some (5, m4)) else some (4, m3)) else some (3, m2)) else some (2, m1)) else some (1, m0))
theorem c_X8_actHere {w : rf_w} {m : rf_m} {r : Int32 × rf_m} (hg : g_X8_actHere w m = some r) : rf_Con j_X8_actHere 6 (rf_sh w) [.ref 14] (rf_MM w m) (some (.int r.1)) (rf_MM w r.2) := by
  refine rf_con j_X8_actHere 6 ⟨by decide +kernel, rfl, Nat.le_of_ble_eq_true rfl⟩ (fun K C hE => ?_)
  unfold g_X8_actHere at hg
  show rf_V 1 (rf_sh w) K 0 0 0 ([(0, .ref 14)], [], rf_MM w m)
  refine rf_seg C [(.aload 0, 1)] (pc' := 1) (S' := ([(0, .ref 14)], [.ref 14], rf_MM w m)) (by decide +kernel) rfl trivial ?_
  refine rf_s_ldc C 1000001 (idx := 176) (by decide +kernel) (by decide +kernel) ?_
  show rf_V 1 (rf_sh w) K 0 0 3 ([(0, .ref 14)], [.ref 1000001, .ref 14], rf_MM w m)
  obtain ⟨y0, m0, hc0, hg⟩ := rf_b_some hg
  refine rf_callv C rf_fit0 j_X8_isWord (ci := 8) (As := [.ref 1000001]) (rest := []) mw_X8_isWord (c_X8_isWord hc0) (by decide) rfl (by decide) lk_8_102 rfl rfl (Nat.le_of_ble_eq_true rfl) (by decide +kernel) ?_
  show rf_V 1 (rf_sh w) K 0 0 6 ([(0, .ref 14)], [.int y0], rf_MM w m0)
  refine rf_if_eq C 7 13 (by decide +kernel) (fun hc => ?_) (fun hc => ?_)
  · replace hg := (if_pos hc).symm.trans hg
    refine rf_seg C [(.aload 0, 1)] (pc' := 14) (S' := ([(0, .ref 14)], [.ref 14], rf_MM w m0)) (by decide +kernel) rfl trivial ?_
    refine rf_s_ldc C 1000002 (idx := 178) (by decide +kernel) (by decide +kernel) ?_
    show rf_V 1 (rf_sh w) K 0 0 16 ([(0, .ref 14)], [.ref 1000002, .ref 14], rf_MM w m0)
    obtain ⟨y1, m1, hc1, hg⟩ := rf_b_some hg
    refine rf_callv C rf_fit0 j_X8_isWord (ci := 8) (As := [.ref 1000002]) (rest := []) mw_X8_isWord (c_X8_isWord hc1) (by decide) rfl (by decide) lk_8_102 rfl rfl (Nat.le_of_ble_eq_true rfl) (by decide +kernel) ?_
    show rf_V 1 (rf_sh w) K 0 0 19 ([(0, .ref 14)], [.int y1], rf_MM w m1)
    refine rf_if_eq C 7 26 (by decide +kernel) (fun hc => ?_) (fun hc => ?_)
    · replace hg := (if_pos hc).symm.trans hg
      refine rf_seg C [(.aload 0, 1)] (pc' := 27) (S' := ([(0, .ref 14)], [.ref 14], rf_MM w m1)) (by decide +kernel) rfl trivial ?_
      refine rf_s_ldc C 1000003 (idx := 180) (by decide +kernel) (by decide +kernel) ?_
      show rf_V 1 (rf_sh w) K 0 0 29 ([(0, .ref 14)], [.ref 1000003, .ref 14], rf_MM w m1)
      obtain ⟨y2, m2, hc2, hg⟩ := rf_b_some hg
      refine rf_callv C rf_fit0 j_X8_isWord (ci := 8) (As := [.ref 1000003]) (rest := []) mw_X8_isWord (c_X8_isWord hc2) (by decide) rfl (by decide) lk_8_102 rfl rfl (Nat.le_of_ble_eq_true rfl) (by decide +kernel) ?_
      show rf_V 1 (rf_sh w) K 0 0 32 ([(0, .ref 14)], [.int y2], rf_MM w m2)
      refine rf_if_eq C 7 39 (by decide +kernel) (fun hc => ?_) (fun hc => ?_)
      · replace hg := (if_pos hc).symm.trans hg
        refine rf_seg C [(.aload 0, 1)] (pc' := 40) (S' := ([(0, .ref 14)], [.ref 14], rf_MM w m2)) (by decide +kernel) rfl trivial ?_
        refine rf_s_ldc C 1000004 (idx := 182) (by decide +kernel) (by decide +kernel) ?_
        show rf_V 1 (rf_sh w) K 0 0 42 ([(0, .ref 14)], [.ref 1000004, .ref 14], rf_MM w m2)
        obtain ⟨y3, m3, hc3, hg⟩ := rf_b_some hg
        refine rf_callv C rf_fit0 j_X8_isWord (ci := 8) (As := [.ref 1000004]) (rest := []) mw_X8_isWord (c_X8_isWord hc3) (by decide) rfl (by decide) lk_8_102 rfl rfl (Nat.le_of_ble_eq_true rfl) (by decide +kernel) ?_
        show rf_V 1 (rf_sh w) K 0 0 45 ([(0, .ref 14)], [.int y3], rf_MM w m3)
        refine rf_if_eq C 7 52 (by decide +kernel) (fun hc => ?_) (fun hc => ?_)
        · replace hg := (if_pos hc).symm.trans hg
          refine rf_seg C [(.aload 0, 1)] (pc' := 53) (S' := ([(0, .ref 14)], [.ref 14], rf_MM w m3)) (by decide +kernel) rfl trivial ?_
          refine rf_s_ldc C 1000005 (idx := 184) (by decide +kernel) (by decide +kernel) ?_
          show rf_V 1 (rf_sh w) K 0 0 55 ([(0, .ref 14)], [.ref 1000005, .ref 14], rf_MM w m3)
          obtain ⟨y4, m4, hc4, hg⟩ := rf_b_some hg
          refine rf_callv C rf_fit0 j_X8_isWord (ci := 8) (As := [.ref 1000005]) (rest := []) mw_X8_isWord (c_X8_isWord hc4) (by decide) rfl (by decide) lk_8_102 rfl rfl (Nat.le_of_ble_eq_true rfl) (by decide +kernel) ?_
          show rf_V 1 (rf_sh w) K 0 0 58 ([(0, .ref 14)], [.int y4], rf_MM w m4)
          refine rf_if_eq C 7 65 (by decide +kernel) (fun hc => ?_) (fun hc => ?_)
          · replace hg := (if_pos hc).symm.trans hg
            refine rf_seg C [(.iconst 0, 1)] (pc' := 66) (S' := ([(0, .ref 14)], [.int 0], rf_MM w m4)) (by decide +kernel) rfl trivial ?_
            obtain rfl := Option.some.inj hg
            exact rf_iret C hE (by decide +kernel)
          · replace hg := (if_neg hc).symm.trans hg
            refine rf_seg C [(.iconst 5, 1)] (pc' := 62) (S' := ([(0, .ref 14)], [.int 5], rf_MM w m4)) (by decide +kernel) rfl trivial ?_
            refine rf_goto C 4 66 (by decide +kernel) ?_
            obtain rfl := Option.some.inj hg
            exact rf_iret C hE (by decide +kernel)
        · replace hg := (if_neg hc).symm.trans hg
          refine rf_seg C [(.iconst 4, 1)] (pc' := 49) (S' := ([(0, .ref 14)], [.int 4], rf_MM w m3)) (by decide +kernel) rfl trivial ?_
          refine rf_goto C 17 66 (by decide +kernel) ?_
          obtain rfl := Option.some.inj hg
          exact rf_iret C hE (by decide +kernel)
      · replace hg := (if_neg hc).symm.trans hg
        refine rf_seg C [(.iconst 3, 1)] (pc' := 36) (S' := ([(0, .ref 14)], [.int 3], rf_MM w m2)) (by decide +kernel) rfl trivial ?_
        refine rf_goto C 30 66 (by decide +kernel) ?_
        obtain rfl := Option.some.inj hg
        exact rf_iret C hE (by decide +kernel)
    · replace hg := (if_neg hc).symm.trans hg
      refine rf_seg C [(.iconst 2, 1)] (pc' := 23) (S' := ([(0, .ref 14)], [.int 2], rf_MM w m1)) (by decide +kernel) rfl trivial ?_
      refine rf_goto C 43 66 (by decide +kernel) ?_
      obtain rfl := Option.some.inj hg
      exact rf_iret C hE (by decide +kernel)
  · replace hg := (if_neg hc).symm.trans hg
    refine rf_seg C [(.iconst 1, 1)] (pc' := 10) (S' := ([(0, .ref 14)], [.int 1], rf_MM w m0)) (by decide +kernel) rfl trivial ?_
    refine rf_goto C 56 66 (by decide +kernel) ?_
    obtain rfl := Option.some.inj hg
    exact rf_iret C hE (by decide +kernel)
-- X8_takeAct
abbrev j_X8_takeAct : rf_J := (8, yX8_takeAct, cX8_takeAct, 1, none)
theorem mw_X8_takeAct : rf_mv j_X8_takeAct (rf_R 8) 0 := ⟨⟨rf_mem 41 (by decide +kernel), rf_mem 41 (by decide +kernel), rf_mem 2 (by decide +kernel), rf_mem 41 (by decide +kernel)⟩, by decide +kernel, by decide⟩
def g_X8_takeAct (w : rf_w) (m : rf_m) : Option (rf_m) := rf_b (g_X8_actHere w m) fun y0 m0 => (if ((rf_i m0 14 4 y0).1 14 10) = 2 then rf_b (g_X8_isJoint w (rf_i m0 14 4 y0)) fun y2 m2 => (if y2 = 0 then (if (m2.1 14 4) = 0 then rf_bv (g_X8_fail w m2 2) fun m3 => some m3 else (if (m2.1 14 4) = 1 then some (rf_i m2 14 12 1) else (if (m2.1 14 4) = 3 then some (rf_i m2 14 12 1) else some (rf_i m2 14 12 3)))) else rf_bv (g_X8_fail w m2 1) fun m4 => some m4) else rf_bv (g_X8_fail w (rf_i m0 14 4 y0) 1) fun m1 => some m1)
theorem c_X8_takeAct {w : rf_w} {m : rf_m} {r : rf_m} (hg : g_X8_takeAct w m = some r) : rf_Con j_X8_takeAct 7 (rf_sh w) [.ref 14] (rf_MM w m) none (rf_MM w r) := by
  refine rf_con j_X8_takeAct 7 ⟨by decide +kernel, rfl, Nat.le_of_ble_eq_true rfl⟩ (fun K C hE => ?_)
  unfold g_X8_takeAct at hg
  show rf_V 1 (rf_sh w) K 0 0 0 ([(0, .ref 14)], [], rf_MM w m)
  refine rf_seg C [(.aload 0, 1), (.aload 0, 1)] (pc' := 2) (S' := ([(0, .ref 14)], [.ref 14, .ref 14], rf_MM w m)) (by decide +kernel) rfl trivial ?_
  obtain ⟨y0, m0, hc0, hg⟩ := rf_b_some hg
  refine rf_callv C rf_fit0 j_X8_actHere (ci := 8) (As := []) (rest := [.ref 14]) mw_X8_actHere (c_X8_actHere hc0) (by decide) rfl (by decide) lk_8_82 rfl rfl (Nat.le_of_ble_eq_true rfl) (by decide +kernel) ?_
  show rf_V 1 (rf_sh w) K 0 0 5 ([(0, .ref 14)], [.int y0, .ref 14], rf_MM w m0)
  refine rf_seg C [(.multianewarray 8 4, 3), (.aload 0, 1), (.invokeinterface 8 10, 3), (.iconst 2, 1)] (pc' := 13) (S' := ([(0, .ref 14)], [.int 2, .int ((rf_i m0 14 4 y0).1 14 10)], rf_MM w (rf_i m0 14 4 y0))) (by decide +kernel) rfl trivial ?_
  refine rf_icmp_ne C 10 23 (by decide +kernel) (fun hc => ?_) (fun hc => ?_)
  · replace hg := (if_neg hc).symm.trans hg
    refine rf_seg C [(.aload 0, 1), (.iconst 1, 1)] (pc' := 25) (S' := ([(0, .ref 14)], [.int 1, .ref 14], rf_MM w (rf_i m0 14 4 y0))) (by decide +kernel) rfl trivial ?_
    obtain ⟨m1, hc1, hg⟩ := rf_bv_some hg
    refine rf_callv C rf_fit0 j_X8_fail (ci := 8) (As := [.int 1]) (rest := []) mw_X8_fail (c_X8_fail hc1) (by decide) rfl (by decide) lk_8_96 rfl rfl (Nat.le_of_ble_eq_true rfl) (by decide +kernel) ?_
    show rf_V 1 (rf_sh w) K 0 0 28 ([(0, .ref 14)], [], rf_MM w m1)
    refine rf_goto C 43 71 (by decide +kernel) ?_
    obtain rfl := Option.some.inj hg
    exact rf_vret C hE (by decide +kernel)
  · replace hg := (if_pos hc).symm.trans hg
    refine rf_seg C [(.aload 0, 1)] (pc' := 17) (S' := ([(0, .ref 14)], [.ref 14], rf_MM w (rf_i m0 14 4 y0))) (by decide +kernel) rfl trivial ?_
    obtain ⟨y2, m2, hc2, hg⟩ := rf_b_some hg
    refine rf_callv C rf_fit0 j_X8_isJoint (ci := 8) (As := []) (rest := []) mw_X8_isJoint (c_X8_isJoint hc2) (by decide) rfl (by decide) lk_8_92 rfl rfl (Nat.le_of_ble_eq_true rfl) (by decide +kernel) ?_
    show rf_V 1 (rf_sh w) K 0 0 20 ([(0, .ref 14)], [.int y2], rf_MM w m2)
    refine rf_if_eq C 11 31 (by decide +kernel) (fun hc => ?_) (fun hc => ?_)
    · replace hg := (if_pos hc).symm.trans hg
      refine rf_seg C [(.aload 0, 1), (.invokeinterface 8 4, 3)] (pc' := 35) (S' := ([(0, .ref 14)], [.int (m2.1 14 4)], rf_MM w m2)) (by decide +kernel) rfl trivial ?_
      refine rf_if_ne C 11 46 (by decide +kernel) (fun hc => ?_) (fun hc => ?_)
      · replace hg := (if_neg hc).symm.trans hg
        refine rf_seg C [(.aload 0, 1), (.aload 0, 1), (.invokeinterface 8 4, 3), (.iconst 1, 1)] (pc' := 52) (S' := ([(0, .ref 14)], [.int 1, .int (m2.1 14 4), .ref 14], rf_MM w m2)) (by decide +kernel) rfl trivial ?_
        refine rf_icmp_eq C 11 63 (by decide +kernel) (fun hc => ?_) (fun hc => ?_)
        · replace hg := (if_pos hc).symm.trans hg
          refine rf_seg C [(.iconst 1, 1)] (pc' := 64) (S' := ([(0, .ref 14)], [.int 1, .ref 14], rf_MM w m2)) (by decide +kernel) rfl trivial ?_
          refine rf_goto C 4 68 (by decide +kernel) ?_
          refine rf_seg C [(.multianewarray 8 12, 3)] (pc' := 71) (S' := ([(0, .ref 14)], [], rf_MM w (rf_i m2 14 12 1))) (by decide +kernel) rfl trivial ?_
          obtain rfl := Option.some.inj hg
          exact rf_vret C hE (by decide +kernel)
        · replace hg := (if_neg hc).symm.trans hg
          refine rf_seg C [(.aload 0, 1), (.invokeinterface 8 4, 3), (.iconst 3, 1)] (pc' := 60) (S' := ([(0, .ref 14)], [.int 3, .int (m2.1 14 4), .ref 14], rf_MM w m2)) (by decide +kernel) rfl trivial ?_
          refine rf_icmp_ne C 7 67 (by decide +kernel) (fun hc => ?_) (fun hc => ?_)
          · replace hg := (if_neg hc).symm.trans hg
            refine rf_seg C [(.iconst 3, 1), (.multianewarray 8 12, 3)] (pc' := 71) (S' := ([(0, .ref 14)], [], rf_MM w (rf_i m2 14 12 3))) (by decide +kernel) rfl trivial ?_
            obtain rfl := Option.some.inj hg
            exact rf_vret C hE (by decide +kernel)
          · replace hg := (if_pos hc).symm.trans hg
            refine rf_seg C [(.iconst 1, 1)] (pc' := 64) (S' := ([(0, .ref 14)], [.int 1, .ref 14], rf_MM w m2)) (by decide +kernel) rfl trivial ?_
            refine rf_goto C 4 68 (by decide +kernel) ?_
            refine rf_seg C [(.multianewarray 8 12, 3)] (pc' := 71) (S' := ([(0, .ref 14)], [], rf_MM w (rf_i m2 14 12 1))) (by decide +kernel) rfl trivial ?_
            obtain rfl := Option.some.inj hg
            exact rf_vret C hE (by decide +kernel)
      · replace hg := (if_pos hc).symm.trans hg
        refine rf_seg C [(.aload 0, 1), (.iconst 2, 1)] (pc' := 40) (S' := ([(0, .ref 14)], [.int 2, .ref 14], rf_MM w m2)) (by decide +kernel) rfl trivial ?_
        obtain ⟨m3, hc3, hg⟩ := rf_bv_some hg
        refine rf_callv C rf_fit0 j_X8_fail (ci := 8) (As := [.int 2]) (rest := []) mw_X8_fail (c_X8_fail hc3) (by decide) rfl (by decide) lk_8_96 rfl rfl (Nat.le_of_ble_eq_true rfl) (by decide +kernel) ?_
        show rf_V 1 (rf_sh w) K 0 0 43 ([(0, .ref 14)], [], rf_MM w m3)
        refine rf_goto C 28 71 (by decide +kernel) ?_
        obtain rfl := Option.some.inj hg
        exact rf_vret C hE (by decide +kernel)
    · replace hg := (if_neg hc).symm.trans hg
      refine rf_seg C [(.aload 0, 1), (.iconst 1, 1)] (pc' := 25) (S' := ([(0, .ref 14)], [.int 1, .ref 14], rf_MM w m2)) (by decide +kernel) rfl trivial ?_
      obtain ⟨m4, hc4, hg⟩ := rf_bv_some hg
      refine rf_callv C rf_fit0 j_X8_fail (ci := 8) (As := [.int 1]) (rest := []) mw_X8_fail (c_X8_fail hc4) (by decide) rfl (by decide) lk_8_96 rfl rfl (Nat.le_of_ble_eq_true rfl) (by decide +kernel) ?_
      show rf_V 1 (rf_sh w) K 0 0 28 ([(0, .ref 14)], [], rf_MM w m4)
      refine rf_goto C 43 71 (by decide +kernel) ?_
      obtain rfl := Option.some.inj hg
      exact rf_vret C hE (by decide +kernel)
-- X8_takeToken
abbrev j_X8_takeToken : rf_J := (8, yX8_takeToken, cX8_takeToken, 1, none)
theorem mw_X8_takeToken : rf_mv j_X8_takeToken (rf_R 8) 0 := ⟨⟨rf_mem 41 (by decide +kernel), rf_mem 41 (by decide +kernel), rf_mem 2 (by decide +kernel), rf_mem 41 (by decide +kernel)⟩, by decide +kernel, by decide⟩
def g_X8_takeToken (w : rf_w) (m : rf_m) : Option (rf_m) := (if (m.1 14 12) = 0 then rf_bv (g_X8_takeAct w m) fun m0 => some m0 else if (m.1 14 12) = 1 then rf_bv (g_X8_takeIf w m) fun m1 => some m1 else if (m.1 14 12) = 2 then rf_bv (g_X8_takeOne w m) fun m2 => some m2 else if (m.1 14 12) = 3 then rf_bv (g_X8_takeOperand w m) fun m3 => some m3 else if (m.1 14 12) = 4 then rf_bv (g_X8_takeSign w m) fun m4 => some m4 else rf_bv (g_X8_takeJoint w m) fun m5 => some m5)
theorem c_X8_takeToken {w : rf_w} {m : rf_m} {r : rf_m} (hg : g_X8_takeToken w m = some r) : rf_Con j_X8_takeToken 9 (rf_sh w) [.ref 14] (rf_MM w m) none (rf_MM w r) := by
  refine rf_con j_X8_takeToken 9 ⟨by decide +kernel, rfl, Nat.le_of_ble_eq_true rfl⟩ (fun K C hE => ?_)
  unfold g_X8_takeToken at hg
  show rf_V 1 (rf_sh w) K 0 0 0 ([(0, .ref 14)], [], rf_MM w m)
  refine rf_seg C [(.aload 0, 1), (.invokeinterface 8 12, 3)] (pc' := 4) (S' := ([(0, .ref 14)], [.int (m.1 14 12)], rf_MM w m)) (by decide +kernel) rfl trivial ?_
  by_cases ht0 : (m.1 14 12) = 0
  · replace hg := (if_pos ht0).symm.trans hg
    refine rf_tabc C ht0 40 (by decide +kernel) ?_
    refine rf_seg C [(.aload 0, 1)] (pc' := 41) (S' := ([(0, .ref 14)], [.ref 14], rf_MM w m)) (by decide +kernel) rfl trivial ?_
    obtain ⟨m0, hc0, hg⟩ := rf_bv_some hg
    refine rf_callv C rf_fit0 j_X8_takeAct (ci := 8) (As := []) (rest := []) mw_X8_takeAct (c_X8_takeAct hc0) (by decide) rfl (by decide) lk_8_64 rfl rfl (Nat.le_of_ble_eq_true rfl) (by decide +kernel) ?_
    show rf_V 1 (rf_sh w) K 0 0 44 ([(0, .ref 14)], [], rf_MM w m0)
    refine rf_goto C 35 79 (by decide +kernel) ?_
    obtain rfl := Option.some.inj hg
    exact rf_vret C hE (by decide +kernel)
  · replace hg := (if_neg ht0).symm.trans hg
    by_cases ht1 : (m.1 14 12) = 1
    · replace hg := (if_pos ht1).symm.trans hg
      refine rf_tabc C ht1 47 (by decide +kernel) ?_
      refine rf_seg C [(.aload 0, 1)] (pc' := 48) (S' := ([(0, .ref 14)], [.ref 14], rf_MM w m)) (by decide +kernel) rfl trivial ?_
      obtain ⟨m1, hc1, hg⟩ := rf_bv_some hg
      refine rf_callv C rf_fit0 j_X8_takeIf (ci := 8) (As := []) (rest := []) mw_X8_takeIf (c_X8_takeIf hc1) (by decide) rfl (by decide) lk_8_67 rfl rfl (Nat.le_of_ble_eq_true rfl) (by decide +kernel) ?_
      show rf_V 1 (rf_sh w) K 0 0 51 ([(0, .ref 14)], [], rf_MM w m1)
      refine rf_goto C 28 79 (by decide +kernel) ?_
      obtain rfl := Option.some.inj hg
      exact rf_vret C hE (by decide +kernel)
    · replace hg := (if_neg ht1).symm.trans hg
      by_cases ht2 : (m.1 14 12) = 2
      · replace hg := (if_pos ht2).symm.trans hg
        refine rf_tabc C ht2 54 (by decide +kernel) ?_
        refine rf_seg C [(.aload 0, 1)] (pc' := 55) (S' := ([(0, .ref 14)], [.ref 14], rf_MM w m)) (by decide +kernel) rfl trivial ?_
        obtain ⟨m2, hc2, hg⟩ := rf_bv_some hg
        refine rf_callv C rf_fit0 j_X8_takeOne (ci := 8) (As := []) (rest := []) mw_X8_takeOne (c_X8_takeOne hc2) (by decide) rfl (by decide) lk_8_70 rfl rfl (Nat.le_of_ble_eq_true rfl) (by decide +kernel) ?_
        show rf_V 1 (rf_sh w) K 0 0 58 ([(0, .ref 14)], [], rf_MM w m2)
        refine rf_goto C 21 79 (by decide +kernel) ?_
        obtain rfl := Option.some.inj hg
        exact rf_vret C hE (by decide +kernel)
      · replace hg := (if_neg ht2).symm.trans hg
        by_cases ht3 : (m.1 14 12) = 3
        · replace hg := (if_pos ht3).symm.trans hg
          refine rf_tabc C ht3 61 (by decide +kernel) ?_
          refine rf_seg C [(.aload 0, 1)] (pc' := 62) (S' := ([(0, .ref 14)], [.ref 14], rf_MM w m)) (by decide +kernel) rfl trivial ?_
          obtain ⟨m3, hc3, hg⟩ := rf_bv_some hg
          refine rf_callv C rf_fit0 j_X8_takeOperand (ci := 8) (As := []) (rest := []) mw_X8_takeOperand (c_X8_takeOperand hc3) (by decide) rfl (by decide) lk_8_73 rfl rfl (Nat.le_of_ble_eq_true rfl) (by decide +kernel) ?_
          show rf_V 1 (rf_sh w) K 0 0 65 ([(0, .ref 14)], [], rf_MM w m3)
          refine rf_goto C 14 79 (by decide +kernel) ?_
          obtain rfl := Option.some.inj hg
          exact rf_vret C hE (by decide +kernel)
        · replace hg := (if_neg ht3).symm.trans hg
          by_cases ht4 : (m.1 14 12) = 4
          · replace hg := (if_pos ht4).symm.trans hg
            refine rf_tabc C ht4 68 (by decide +kernel) ?_
            refine rf_seg C [(.aload 0, 1)] (pc' := 69) (S' := ([(0, .ref 14)], [.ref 14], rf_MM w m)) (by decide +kernel) rfl trivial ?_
            obtain ⟨m4, hc4, hg⟩ := rf_bv_some hg
            refine rf_callv C rf_fit0 j_X8_takeSign (ci := 8) (As := []) (rest := []) mw_X8_takeSign (c_X8_takeSign hc4) (by decide) rfl (by decide) lk_8_76 rfl rfl (Nat.le_of_ble_eq_true rfl) (by decide +kernel) ?_
            show rf_V 1 (rf_sh w) K 0 0 72 ([(0, .ref 14)], [], rf_MM w m4)
            refine rf_goto C 7 79 (by decide +kernel) ?_
            obtain rfl := Option.some.inj hg
            exact rf_vret C hE (by decide +kernel)
          · replace hg := (if_neg ht4).symm.trans hg
            refine rf_tabd C 0 4 75 (by decide +kernel) (by have t0 : ((m.1 14 12)).toInt ≠ 0 := rf_ti ht0; have t1 : ((m.1 14 12)).toInt ≠ 1 := rf_ti ht1; have t2 : ((m.1 14 12)).toInt ≠ 2 := rf_ti ht2; have t3 : ((m.1 14 12)).toInt ≠ 3 := rf_ti ht3; have t4 : ((m.1 14 12)).toInt ≠ 4 := rf_ti ht4; omega) ?_
            refine rf_seg C [(.aload 0, 1)] (pc' := 76) (S' := ([(0, .ref 14)], [.ref 14], rf_MM w m)) (by decide +kernel) rfl trivial ?_
            obtain ⟨m5, hc5, hg⟩ := rf_bv_some hg
            refine rf_callv C rf_fit0 j_X8_takeJoint (ci := 8) (As := []) (rest := []) mw_X8_takeJoint (c_X8_takeJoint hc5) (by decide) rfl (by decide) lk_8_79 rfl rfl (Nat.le_of_ble_eq_true rfl) (by decide +kernel) ?_
            show rf_V 1 (rf_sh w) K 0 0 79 ([(0, .ref 14)], [], rf_MM w m5)
            obtain rfl := Option.some.inj hg
            exact rf_vret C hE (by decide +kernel)
-- X8_parse
abbrev j_X8_parse : rf_J := (8, yX8_parse, cX8_parse, 3, (some .boolean))
theorem mw_X8_parse : rf_mv j_X8_parse (rf_R 8) 1 := ⟨⟨rf_mem 36 (by decide +kernel), rf_mem 36 (by decide +kernel), rf_mem 2 (by decide +kernel), rf_mem 36 (by decide +kernel)⟩, by decide +kernel, by decide⟩
def g_X8_parse_62_b (w : rf_w) (rec62 : Int32 → rf_m → Option (Int32 × rf_m)) (a2 : Int32) (m : rf_m) : Option (Int32 × rf_m) := (if 300 < a2 then (if (m.1 14 5) = 0 then some (1, m) else some (0, m)) else (if (m.1 14 12) = 6 then (if (m.1 14 5) = 0 then some (1, m) else some (0, m)) else (if (m.1 14 5) = 0 then rf_bv (g_X8_next w m) fun m0 => rf_bv (g_X8_takeToken w m0) fun m1 => rec62 (a2 + 1) m1 else (if (m.1 14 5) = 0 then some (1, m) else some (0, m)))))
def g_X8_parse_62 (w : rf_w) : Nat → Int32 → rf_m → Option (Int32 × rf_m)
  | 0, _, _ => none
  | n + 1, a2, m => g_X8_parse_62_b w (g_X8_parse_62 w n) a2 m
def g_X8_parse (w : rf_w) (m : rf_m) (a1 : Int32) : Option (Int32 × rf_m) := g_X8_parse_62 w rf_fuel 0 (rf_i (rf_i (rf_i (rf_i (rf_i (rf_i (rf_i (rf_i (rf_i (rf_i (rf_i (rf_i m 14 7 a1) 14 9 0) 14 2 0) 14 3 0) 14 5 0) 14 6 0) 14 12 0) 14 13 0) 14 14 0) 14 15 0) 14 16 0) 14 18 0)
theorem s_X8_parse_62_b {w : rf_w} {K : rf_K} {r : Int32 × rf_m} (C : rf_Ctx 8 cX8_parse 3 10 (rf_sh w) K) (hE : rf_End (some .boolean) K (rf_sh w) 0 0 (some (.int r.1)) (rf_MM w r.2)) {rec62 : Int32 → rf_m → Option (Int32 × rf_m)} (hr62 : ∀ (a2 : Int32) (m : rf_m), rec62 a2 m = some r → rf_V 3 (rf_sh w) K 0 0 62 ([(0, .ref 14), (2, .int a2)], [], rf_MM w m)) (a2 : Int32) (m : rf_m) (hg : g_X8_parse_62_b w rec62 a2 m = some r) : rf_V 3 (rf_sh w) K 0 0 62 ([(0, .ref 14), (2, .int a2)], [], rf_MM w m) := by
  unfold g_X8_parse_62_b at hg
  refine rf_seg C [(.iload 2, 1), (.iconst 300, 3)] (pc' := 66) (S' := ([(0, .ref 14), (2, .int a2)], [.int 300, .int a2], rf_MM w m)) (by decide +kernel) rfl trivial ?_
  refine rf_icmp_gt C 33 99 (by decide +kernel) (fun hc => ?_) (fun hc => ?_)
  · replace hg := (if_pos hc).symm.trans hg
    refine rf_seg C [(.aload 0, 1), (.invokeinterface 8 5, 3)] (pc' := 103) (S' := ([(0, .ref 14), (2, .int a2)], [.int (m.1 14 5)], rf_MM w m)) (by decide +kernel) rfl trivial ?_
    refine rf_if_ne C 7 110 (by decide +kernel) (fun hc => ?_) (fun hc => ?_)
    · replace hg := (if_neg hc).symm.trans hg
      refine rf_seg C [(.iconst 0, 1)] (pc' := 111) (S' := ([(0, .ref 14), (2, .int a2)], [.int 0], rf_MM w m)) (by decide +kernel) rfl trivial ?_
      obtain rfl := Option.some.inj hg
      exact rf_zret C hE (by decide) (by decide +kernel)
    · replace hg := (if_pos hc).symm.trans hg
      refine rf_seg C [(.iconst 1, 1)] (pc' := 107) (S' := ([(0, .ref 14), (2, .int a2)], [.int 1], rf_MM w m)) (by decide +kernel) rfl trivial ?_
      refine rf_goto C 4 111 (by decide +kernel) ?_
      obtain rfl := Option.some.inj hg
      exact rf_zret C hE (by decide) (by decide +kernel)
  · replace hg := (if_neg hc).symm.trans hg
    refine rf_seg C [(.aload 0, 1), (.invokeinterface 8 12, 3), (.iconst 6, 2)] (pc' := 75) (S' := ([(0, .ref 14), (2, .int a2)], [.int 6, .int (m.1 14 12)], rf_MM w m)) (by decide +kernel) rfl trivial ?_
    refine rf_icmp_eq C 24 99 (by decide +kernel) (fun hc => ?_) (fun hc => ?_)
    · replace hg := (if_pos hc).symm.trans hg
      refine rf_seg C [(.aload 0, 1), (.invokeinterface 8 5, 3)] (pc' := 103) (S' := ([(0, .ref 14), (2, .int a2)], [.int (m.1 14 5)], rf_MM w m)) (by decide +kernel) rfl trivial ?_
      refine rf_if_ne C 7 110 (by decide +kernel) (fun hc => ?_) (fun hc => ?_)
      · replace hg := (if_neg hc).symm.trans hg
        refine rf_seg C [(.iconst 0, 1)] (pc' := 111) (S' := ([(0, .ref 14), (2, .int a2)], [.int 0], rf_MM w m)) (by decide +kernel) rfl trivial ?_
        obtain rfl := Option.some.inj hg
        exact rf_zret C hE (by decide) (by decide +kernel)
      · replace hg := (if_pos hc).symm.trans hg
        refine rf_seg C [(.iconst 1, 1)] (pc' := 107) (S' := ([(0, .ref 14), (2, .int a2)], [.int 1], rf_MM w m)) (by decide +kernel) rfl trivial ?_
        refine rf_goto C 4 111 (by decide +kernel) ?_
        obtain rfl := Option.some.inj hg
        exact rf_zret C hE (by decide) (by decide +kernel)
    · replace hg := (if_neg hc).symm.trans hg
      refine rf_seg C [(.aload 0, 1), (.invokeinterface 8 5, 3)] (pc' := 82) (S' := ([(0, .ref 14), (2, .int a2)], [.int (m.1 14 5)], rf_MM w m)) (by decide +kernel) rfl trivial ?_
      refine rf_if_ne C 17 99 (by decide +kernel) (fun hc => ?_) (fun hc => ?_)
      · replace hg := (if_neg hc).symm.trans hg
        refine rf_seg C [(.aload 0, 1), (.invokeinterface 8 5, 3)] (pc' := 103) (S' := ([(0, .ref 14), (2, .int a2)], [.int (m.1 14 5)], rf_MM w m)) (by decide +kernel) rfl trivial ?_
        refine rf_if_ne C 7 110 (by decide +kernel) (fun hc => ?_) (fun hc => ?_)
        · replace hg := (if_neg hc).symm.trans hg
          refine rf_seg C [(.iconst 0, 1)] (pc' := 111) (S' := ([(0, .ref 14), (2, .int a2)], [.int 0], rf_MM w m)) (by decide +kernel) rfl trivial ?_
          obtain rfl := Option.some.inj hg
          exact rf_zret C hE (by decide) (by decide +kernel)
        · replace hg := (if_pos hc).symm.trans hg
          refine rf_seg C [(.iconst 1, 1)] (pc' := 107) (S' := ([(0, .ref 14), (2, .int a2)], [.int 1], rf_MM w m)) (by decide +kernel) rfl trivial ?_
          refine rf_goto C 4 111 (by decide +kernel) ?_
          obtain rfl := Option.some.inj hg
          exact rf_zret C hE (by decide) (by decide +kernel)
      · replace hg := (if_pos hc).symm.trans hg
        refine rf_seg C [(.aload 0, 1)] (pc' := 86) (S' := ([(0, .ref 14), (2, .int a2)], [.ref 14], rf_MM w m)) (by decide +kernel) rfl trivial ?_
        obtain ⟨m0, hc0, hg⟩ := rf_bv_some hg
        refine rf_callv C rf_fit0 j_X8_next (ci := 8) (As := []) (rest := []) mw_X8_next (c_X8_next hc0) (by decide) rfl (by decide) lk_8_58 rfl rfl (Nat.le_of_ble_eq_true rfl) (by decide +kernel) ?_
        show rf_V 3 (rf_sh w) K 0 0 89 ([(0, .ref 14), (2, .int a2)], [], rf_MM w m0)
        refine rf_seg C [(.aload 0, 1)] (pc' := 90) (S' := ([(0, .ref 14), (2, .int a2)], [.ref 14], rf_MM w m0)) (by decide +kernel) rfl trivial ?_
        obtain ⟨m1, hc1, hg⟩ := rf_bv_some hg
        refine rf_callv C rf_fit0 j_X8_takeToken (ci := 8) (As := []) (rest := []) mw_X8_takeToken (c_X8_takeToken hc1) (by decide) rfl (by decide) lk_8_61 rfl rfl (Nat.le_of_ble_eq_true rfl) (by decide +kernel) ?_
        show rf_V 3 (rf_sh w) K 0 0 93 ([(0, .ref 14), (2, .int a2)], [], rf_MM w m1)
        refine rf_seg C [(.iinc 2 1, 3)] (pc' := 96) (S' := ([(2, .int (a2 + 1)), (0, .ref 14)], [], rf_MM w m1)) (by decide +kernel) rfl trivial ?_
        refine rf_goto C (-34) 62 (by decide +kernel) ?_
        refine rf_few [1, 0] rfl ?_
        exact hr62 (a2 + 1) m1 hg
theorem s_X8_parse_62 {w : rf_w} {K : rf_K} {r : Int32 × rf_m} (C : rf_Ctx 8 cX8_parse 3 10 (rf_sh w) K) (hE : rf_End (some .boolean) K (rf_sh w) 0 0 (some (.int r.1)) (rf_MM w r.2)) (n : Nat) : ∀ (a2 : Int32) (m : rf_m), g_X8_parse_62 w n a2 m = some r → rf_V 3 (rf_sh w) K 0 0 62 ([(0, .ref 14), (2, .int a2)], [], rf_MM w m) := by
  induction n with
  | zero => intro a2 m hg; cases hg
  | succ n ih => intro a2 m hg; exact s_X8_parse_62_b C hE ih a2 m hg
theorem c_X8_parse {w : rf_w} {m : rf_m} {a1 : Int32} {r : Int32 × rf_m} (hg : g_X8_parse w m a1 = some r) : rf_Con j_X8_parse 10 (rf_sh w) [.ref 14, .int a1] (rf_MM w m) (some (.int r.1)) (rf_MM w r.2) := by
  refine rf_con j_X8_parse 10 ⟨by decide +kernel, rfl, Nat.le_of_ble_eq_true rfl⟩ (fun K C hE => ?_)
  unfold g_X8_parse at hg
  show rf_V 3 (rf_sh w) K 0 0 0 ([(0, .ref 14), (1, .int a1)], [], rf_MM w m)
  refine rf_seg C [(.aload 0, 1), (.iload 1, 1), (.multianewarray 8 7, 3), (.aload 0, 1), (.iconst 0, 1), (.multianewarray 8 9, 3), (.aload 0, 1), (.iconst 0, 1), (.multianewarray 8 2, 3), (.aload 0, 1), (.iconst 0, 1), (.multianewarray 8 3, 3), (.aload 0, 1), (.iconst 0, 1), (.multianewarray 8 5, 3), (.aload 0, 1), (.iconst 0, 1), (.multianewarray 8 6, 3), (.aload 0, 1), (.iconst 0, 1), (.multianewarray 8 12, 3), (.aload 0, 1), (.iconst 0, 1), (.multianewarray 8 13, 3), (.aload 0, 1), (.iconst 0, 1), (.multianewarray 8 14, 3), (.aload 0, 1), (.iconst 0, 1), (.multianewarray 8 15, 3), (.aload 0, 1), (.iconst 0, 1), (.multianewarray 8 16, 3), (.aload 0, 1), (.iconst 0, 1), (.multianewarray 8 18, 3), (.iconst 0, 1), (.istore 2, 1)] (pc' := 62) (S' := ([(2, .int 0), (0, .ref 14), (1, .int a1)], [], rf_MM w (rf_i (rf_i (rf_i (rf_i (rf_i (rf_i (rf_i (rf_i (rf_i (rf_i (rf_i (rf_i m 14 7 a1) 14 9 0) 14 2 0) 14 3 0) 14 5 0) 14 6 0) 14 12 0) 14 13 0) 14 14 0) 14 15 0) 14 16 0) 14 18 0))) (by decide +kernel) rfl (by exact trivial) ?_
  refine rf_few [1, 0] rfl ?_
  exact s_X8_parse_62 C hE rf_fuel 0 (rf_i (rf_i (rf_i (rf_i (rf_i (rf_i (rf_i (rf_i (rf_i (rf_i (rf_i (rf_i m 14 7 a1) 14 9 0) 14 2 0) 14 3 0) 14 5 0) 14 6 0) 14 12 0) 14 13 0) 14 14 0) 14 15 0) 14 16 0) 14 18 0) hg
-- X11_rule
abbrev j_X11_rule : rf_J := (11, yX11_rule, cX11_rule, 6, (some .int))
theorem mw_X11_rule : rf_mv j_X11_rule (rf_R 11) 3 := ⟨⟨rf_mem 36 (by decide +kernel), rf_mem 36 (by decide +kernel), rf_mem 0 (by decide +kernel), rf_mem 36 (by decide +kernel)⟩, by decide +kernel, by decide⟩
def g_X11_rule (w : rf_w) (m : rf_m) (a1 : Int32) (a2 : Int32) (a3 : Int32) : Option (Int32 × rf_m) := rf_b (g_X11_isWithin w m a1 0 (m.1 13 2)) fun y0 m0 => (if y0 = 0 then rf_b (g_X11_refused w m0 2) fun y1 m1 => some (y1, m1) else rf_b (g_X11_isTime w m0 a2 a3) fun y2 m2 => (if y2 = 0 then rf_b (g_X11_refused w m2 2) fun y11 m11 => some (y11, m11) else rf_b (g_X8_parse w (rf_i m2 13 2 0) a1) fun y3 m3 => (if y3 = 0 then rf_b (g_X11_refused w (rf_i (rf_i m3 0 12 (m3.1 14 5)) 0 13 ((rf_i m3 0 12 (m3.1 14 5)).1 14 6)) 4) fun y10 m10 => some (y10, m10) else (if ((rf_i (rf_i m3 0 12 (m3.1 14 5)) 0 13 ((rf_i m3 0 12 (m3.1 14 5)).1 14 6)).1 13 3) < 24 then rf_b (g_X9_add w (rf_i (rf_i m3 0 12 (m3.1 14 5)) 0 13 ((rf_i m3 0 12 (m3.1 14 5)).1 14 6)) a2 a3) fun y4 m4 => rf_b (g_X9_isStriking w m4 y4) fun y5 m5 => (if y5 = 0 then rf_b (g_X11_answered w m5 y4) fun y6 m6 => some (y6, m6) else rf_bv (g_X3_forgetAll w m5) fun m7 => rf_b (g_X11_answered w m7 y4) fun y8 m8 => some (y8, m8)) else rf_b (g_X11_refused w (rf_i (rf_i m3 0 12 (m3.1 14 5)) 0 13 ((rf_i m3 0 12 (m3.1 14 5)).1 14 6)) 3) fun y9 m9 => some (y9, m9)))))
theorem c_X11_rule {w : rf_w} {m : rf_m} {a1 : Int32} {a2 : Int32} {a3 : Int32} {r : Int32 × rf_m} (hg : g_X11_rule w m a1 a2 a3 = some r) : rf_Con j_X11_rule 11 (rf_sh w) [.ref 0, .int a1, .int a2, .int a3] (rf_MM w m) (some (.int r.1)) (rf_MM w r.2) := by
  refine rf_con j_X11_rule 11 ⟨by decide +kernel, rfl, Nat.le_of_ble_eq_true rfl⟩ (fun K C hE => ?_)
  unfold g_X11_rule at hg
  show rf_V 6 (rf_sh w) K 0 0 0 ([(0, .ref 0), (1, .int a1), (2, .int a2), (3, .int a3)], [], rf_MM w m)
  refine rf_seg C [(.iload 1, 1), (.iconst 0, 1), (.aload 0, 1), (.invokeinterface 11 1, 3), (.invokeinterface 9 2, 3)] (pc' := 9) (S' := ([(0, .ref 0), (1, .int a1), (2, .int a2), (3, .int a3)], [.int (m.1 13 2), .int 0, .int a1], rf_MM w m)) (by decide +kernel) rfl trivial ?_
  obtain ⟨y0, m0, hc0, hg⟩ := rf_b_some hg
  refine rf_calls C rf_fit0 j_X11_isWithin (As := [.int a1, .int 0, .int (m.1 13 2)]) (rest := []) mw_X11_isWithin (c_X11_isWithin hc0) (by decide) lk_11_91 rfl rfl (Nat.le_of_ble_eq_true rfl) (by decide +kernel) ?_
  show rf_V 6 (rf_sh w) K 0 0 12 ([(0, .ref 0), (1, .int a1), (2, .int a2), (3, .int a3)], [.int y0], rf_MM w m0)
  refine rf_if_eq C 11 23 (by decide +kernel) (fun hc => ?_) (fun hc => ?_)
  · replace hg := (if_pos hc).symm.trans hg
    refine rf_seg C [(.aload 0, 1), (.iconst 2, 1)] (pc' := 25) (S' := ([(0, .ref 0), (1, .int a1), (2, .int a2), (3, .int a3)], [.int 2, .ref 0], rf_MM w m0)) (by decide +kernel) rfl trivial ?_
    obtain ⟨y1, m1, hc1, hg⟩ := rf_b_some hg
    refine rf_callv C rf_fit0 j_X11_refused (ci := 11) (As := [.int 2]) (rest := []) mw_X11_refused (c_X11_refused hc1) (by decide) rfl (by decide) lk_11_105 rfl rfl (Nat.le_of_ble_eq_true rfl) (by decide +kernel) ?_
    show rf_V 6 (rf_sh w) K 0 0 28 ([(0, .ref 0), (1, .int a1), (2, .int a2), (3, .int a3)], [.int y1], rf_MM w m1)
    obtain rfl := Option.some.inj hg
    exact rf_iret C hE (by decide +kernel)
  · replace hg := (if_neg hc).symm.trans hg
    refine rf_seg C [(.iload 2, 1), (.iload 3, 1)] (pc' := 17) (S' := ([(0, .ref 0), (1, .int a1), (2, .int a2), (3, .int a3)], [.int a3, .int a2], rf_MM w m0)) (by decide +kernel) rfl trivial ?_
    obtain ⟨y2, m2, hc2, hg⟩ := rf_b_some hg
    refine rf_calls C rf_fit0 j_X11_isTime (As := [.int a2, .int a3]) (rest := []) mw_X11_isTime (c_X11_isTime hc2) (by decide) lk_11_245 rfl rfl (Nat.le_of_ble_eq_true rfl) (by decide +kernel) ?_
    show rf_V 6 (rf_sh w) K 0 0 20 ([(0, .ref 0), (1, .int a1), (2, .int a2), (3, .int a3)], [.int y2], rf_MM w m2)
    refine rf_if_ne C 9 29 (by decide +kernel) (fun hc => ?_) (fun hc => ?_)
    · replace hg := (if_neg hc).symm.trans hg
      refine rf_seg C [(.aload 0, 1), (.invokeinterface 11 1, 3), (.iconst 0, 1), (.multianewarray 9 2, 3), (.aload 0, 1), (.invokeinterface 11 1, 3), (.invokeinterface 9 0, 3), (.iload 1, 1)] (pc' := 45) (S' := ([(0, .ref 0), (1, .int a1), (2, .int a2), (3, .int a3)], [.int a1, .ref 14], rf_MM w (rf_i m2 13 2 0))) (by decide +kernel) rfl trivial ?_
      obtain ⟨y3, m3, hc3, hg⟩ := rf_b_some hg
      refine rf_callv C rf_fit0 j_X8_parse (ci := 8) (As := [.int a1]) (rest := []) mw_X8_parse (c_X8_parse hc3) (by decide) rfl (by decide) lk_11_252 rfl rfl (Nat.le_of_ble_eq_true rfl) (by decide +kernel) ?_
      show rf_V 6 (rf_sh w) K 0 0 48 ([(0, .ref 0), (1, .int a1), (2, .int a2), (3, .int a3)], [.int y3], rf_MM w m3)
      refine rf_seg C [(.istore 4, 2), (.aload 0, 1), (.aload 0, 1), (.invokeinterface 11 1, 3), (.invokeinterface 9 0, 3), (.invokeinterface 8 5, 3), (.multianewarray 11 12, 3), (.aload 0, 1), (.aload 0, 1), (.invokeinterface 11 1, 3), (.invokeinterface 9 0, 3), (.invokeinterface 8 6, 3), (.multianewarray 11 13, 3), (.iload 4, 2)] (pc' := 80) (S' := ([(4, .int y3), (0, .ref 0), (1, .int a1), (2, .int a2), (3, .int a3)], [.int y3], rf_MM w (rf_i (rf_i m3 0 12 (m3.1 14 5)) 0 13 ((rf_i m3 0 12 (m3.1 14 5)).1 14 6)))) (by decide +kernel) rfl trivial ?_
      refine rf_if_ne C 9 89 (by decide +kernel) (fun hc => ?_) (fun hc => ?_)
      · replace hg := (if_neg hc).symm.trans hg
        refine rf_seg C [(.aload 0, 1), (.invokeinterface 11 1, 3), (.invokeinterface 9 3, 3), (.iconst 24, 2)] (pc' := 98) (S' := ([(4, .int y3), (0, .ref 0), (1, .int a1), (2, .int a2), (3, .int a3)], [.int 24, .int ((rf_i (rf_i m3 0 12 (m3.1 14 5)) 0 13 ((rf_i m3 0 12 (m3.1 14 5)).1 14 6)).1 13 3)], rf_MM w (rf_i (rf_i m3 0 12 (m3.1 14 5)) 0 13 ((rf_i m3 0 12 (m3.1 14 5)).1 14 6)))) (by decide +kernel) rfl trivial ?_
        refine rf_icmp_lt C 9 107 (by decide +kernel) (fun hc => ?_) (fun hc => ?_)
        · replace hg := (if_pos hc).symm.trans hg
          refine rf_seg C [(.aload 0, 1), (.invokeinterface 11 1, 3), (.iload 2, 1), (.iload 3, 1)] (pc' := 113) (S' := ([(4, .int y3), (0, .ref 0), (1, .int a1), (2, .int a2), (3, .int a3)], [.int a3, .int a2, .ref 13], rf_MM w (rf_i (rf_i m3 0 12 (m3.1 14 5)) 0 13 ((rf_i m3 0 12 (m3.1 14 5)).1 14 6)))) (by decide +kernel) rfl trivial ?_
          obtain ⟨y4, m4, hc4, hg⟩ := rf_b_some hg
          refine rf_callv C rf_fit0 j_X9_add (ci := 9) (As := [.int a2, .int a3]) (rest := []) mw_X9_add (c_X9_add hc4) (by decide) rfl (by decide) lk_11_267 rfl rfl (Nat.le_of_ble_eq_true rfl) (by decide +kernel) ?_
          show rf_V 6 (rf_sh w) K 0 0 116 ([(4, .int y3), (0, .ref 0), (1, .int a1), (2, .int a2), (3, .int a3)], [.int y4], rf_MM w m4)
          refine rf_seg C [(.istore 5, 2), (.aload 0, 1), (.invokeinterface 11 1, 3), (.iload 5, 2)] (pc' := 124) (S' := ([(5, .int y4), (4, .int y3), (0, .ref 0), (1, .int a1), (2, .int a2), (3, .int a3)], [.int y4, .ref 13], rf_MM w m4)) (by decide +kernel) rfl trivial ?_
          obtain ⟨y5, m5, hc5, hg⟩ := rf_b_some hg
          refine rf_callv C rf_fit0 j_X9_isStriking (ci := 9) (As := [.int y4]) (rest := []) mw_X9_isStriking (c_X9_isStriking hc5) (by decide) rfl (by decide) lk_11_270 rfl rfl (Nat.le_of_ble_eq_true rfl) (by decide +kernel) ?_
          show rf_V 6 (rf_sh w) K 0 0 127 ([(5, .int y4), (4, .int y3), (0, .ref 0), (1, .int a1), (2, .int a2), (3, .int a3)], [.int y5], rf_MM w m5)
          refine rf_if_eq C 10 137 (by decide +kernel) (fun hc => ?_) (fun hc => ?_)
          · replace hg := (if_pos hc).symm.trans hg
            refine rf_seg C [(.aload 0, 1), (.iload 5, 2)] (pc' := 140) (S' := ([(5, .int y4), (4, .int y3), (0, .ref 0), (1, .int a1), (2, .int a2), (3, .int a3)], [.int y4, .ref 0], rf_MM w m5)) (by decide +kernel) rfl trivial ?_
            obtain ⟨y6, m6, hc6, hg⟩ := rf_b_some hg
            refine rf_callv C rf_fit0 j_X11_answered (ci := 11) (As := [.int y4]) (rest := []) mw_X11_answered (c_X11_answered hc6) (by decide) rfl (by decide) lk_11_119 rfl rfl (Nat.le_of_ble_eq_true rfl) (by decide +kernel) ?_
            show rf_V 6 (rf_sh w) K 0 0 143 ([(5, .int y4), (4, .int y3), (0, .ref 0), (1, .int a1), (2, .int a2), (3, .int a3)], [.int y6], rf_MM w m6)
            obtain rfl := Option.some.inj hg
            exact rf_iret C hE (by decide +kernel)
          · replace hg := (if_neg hc).symm.trans hg
            refine rf_seg C [(.aload 0, 1), (.invokeinterface 11 2, 3)] (pc' := 134) (S' := ([(5, .int y4), (4, .int y3), (0, .ref 0), (1, .int a1), (2, .int a2), (3, .int a3)], [.ref 26], rf_MM w m5)) (by decide +kernel) rfl trivial ?_
            obtain ⟨m7, hc7, hg⟩ := rf_bv_some hg
            refine rf_callv C rf_fit0 j_X3_forgetAll (ci := 3) (As := []) (rest := []) mw_X3_forgetAll (c_X3_forgetAll hc7) (by decide) rfl (by decide) lk_11_273 rfl rfl (Nat.le_of_ble_eq_true rfl) (by decide +kernel) ?_
            show rf_V 6 (rf_sh w) K 0 0 137 ([(5, .int y4), (4, .int y3), (0, .ref 0), (1, .int a1), (2, .int a2), (3, .int a3)], [], rf_MM w m7)
            refine rf_seg C [(.aload 0, 1), (.iload 5, 2)] (pc' := 140) (S' := ([(5, .int y4), (4, .int y3), (0, .ref 0), (1, .int a1), (2, .int a2), (3, .int a3)], [.int y4, .ref 0], rf_MM w m7)) (by decide +kernel) rfl trivial ?_
            obtain ⟨y8, m8, hc8, hg⟩ := rf_b_some hg
            refine rf_callv C rf_fit0 j_X11_answered (ci := 11) (As := [.int y4]) (rest := []) mw_X11_answered (c_X11_answered hc8) (by decide) rfl (by decide) lk_11_119 rfl rfl (Nat.le_of_ble_eq_true rfl) (by decide +kernel) ?_
            show rf_V 6 (rf_sh w) K 0 0 143 ([(5, .int y4), (4, .int y3), (0, .ref 0), (1, .int a1), (2, .int a2), (3, .int a3)], [.int y8], rf_MM w m8)
            obtain rfl := Option.some.inj hg
            exact rf_iret C hE (by decide +kernel)
        · replace hg := (if_neg hc).symm.trans hg
          refine rf_seg C [(.aload 0, 1), (.iconst 3, 1)] (pc' := 103) (S' := ([(4, .int y3), (0, .ref 0), (1, .int a1), (2, .int a2), (3, .int a3)], [.int 3, .ref 0], rf_MM w (rf_i (rf_i m3 0 12 (m3.1 14 5)) 0 13 ((rf_i m3 0 12 (m3.1 14 5)).1 14 6)))) (by decide +kernel) rfl trivial ?_
          obtain ⟨y9, m9, hc9, hg⟩ := rf_b_some hg
          refine rf_callv C rf_fit0 j_X11_refused (ci := 11) (As := [.int 3]) (rest := []) mw_X11_refused (c_X11_refused hc9) (by decide) rfl (by decide) lk_11_105 rfl rfl (Nat.le_of_ble_eq_true rfl) (by decide +kernel) ?_
          show rf_V 6 (rf_sh w) K 0 0 106 ([(4, .int y3), (0, .ref 0), (1, .int a1), (2, .int a2), (3, .int a3)], [.int y9], rf_MM w m9)
          obtain rfl := Option.some.inj hg
          exact rf_iret C hE (by decide +kernel)
      · replace hg := (if_pos hc).symm.trans hg
        refine rf_seg C [(.aload 0, 1), (.iconst 4, 1)] (pc' := 85) (S' := ([(4, .int y3), (0, .ref 0), (1, .int a1), (2, .int a2), (3, .int a3)], [.int 4, .ref 0], rf_MM w (rf_i (rf_i m3 0 12 (m3.1 14 5)) 0 13 ((rf_i m3 0 12 (m3.1 14 5)).1 14 6)))) (by decide +kernel) rfl trivial ?_
        obtain ⟨y10, m10, hc10, hg⟩ := rf_b_some hg
        refine rf_callv C rf_fit0 j_X11_refused (ci := 11) (As := [.int 4]) (rest := []) mw_X11_refused (c_X11_refused hc10) (by decide) rfl (by decide) lk_11_105 rfl rfl (Nat.le_of_ble_eq_true rfl) (by decide +kernel) ?_
        show rf_V 6 (rf_sh w) K 0 0 88 ([(4, .int y3), (0, .ref 0), (1, .int a1), (2, .int a2), (3, .int a3)], [.int y10], rf_MM w m10)
        obtain rfl := Option.some.inj hg
        exact rf_iret C hE (by decide +kernel)
    · replace hg := (if_pos hc).symm.trans hg
      refine rf_seg C [(.aload 0, 1), (.iconst 2, 1)] (pc' := 25) (S' := ([(0, .ref 0), (1, .int a1), (2, .int a2), (3, .int a3)], [.int 2, .ref 0], rf_MM w m2)) (by decide +kernel) rfl trivial ?_
      obtain ⟨y11, m11, hc11, hg⟩ := rf_b_some hg
      refine rf_callv C rf_fit0 j_X11_refused (ci := 11) (As := [.int 2]) (rest := []) mw_X11_refused (c_X11_refused hc11) (by decide) rfl (by decide) lk_11_105 rfl rfl (Nat.le_of_ble_eq_true rfl) (by decide +kernel) ?_
      show rf_V 6 (rf_sh w) K 0 0 28 ([(0, .ref 0), (1, .int a1), (2, .int a2), (3, .int a3)], [.int y11], rf_MM w m11)
      obtain rfl := Option.some.inj hg
      exact rf_iret C hE (by decide +kernel)
-- X11_chain
abbrev j_X11_chain : rf_J := (11, yX11_chain, cX11_chain, 5, (some .int))
theorem mw_X11_chain : rf_mv j_X11_chain (rf_R 11) 3 := ⟨⟨rf_mem 75 (by decide +kernel), rf_mem 76 (by decide +kernel), rf_mem 0 (by decide +kernel), rf_mem 76 (by decide +kernel)⟩, by decide +kernel, by decide⟩
def g_X11_chain (w : rf_w) (m : rf_m) (a1 : Int32) (a2 : Int32) (a3 : Int32) : Option (Int32 × rf_m) := rf_b (g_X6_isBase w m a1) fun y0 m0 => (if y0 = 0 then rf_b (g_X11_refused w m0 1) fun y1 m1 => some (y1, m1) else rf_b (g_X5_isPair w m0 a2 a3) fun y2 m2 => (if y2 = 0 then rf_b (g_X11_refused w m2 1) fun y9 m9 => some (y9, m9) else rf_bv (g_X3_freshenAll w m2) fun m3 => rf_b (g_X11_sideOf w m3 a2 a3) fun y4 m4 => rf_b (g_X9_leastAngle w m4 (m4.1 0 10)) fun y5 m5 => rf_b (g_X4_seek w m5 a1 y4 y5) fun y6 m6 => (if y6 = 0 then rf_b (g_X11_answered w m6 ((m6.1 175 3) - (m6.1 175 2))) fun y8 m8 => some (y8, m8) else rf_b (g_X11_refused w m6 y6) fun y7 m7 => some (y7, m7))))
theorem c_X11_chain {w : rf_w} {m : rf_m} {a1 : Int32} {a2 : Int32} {a3 : Int32} {r : Int32 × rf_m} (hg : g_X11_chain w m a1 a2 a3 = some r) : rf_Con j_X11_chain 50 (rf_sh w) [.ref 0, .int a1, .int a2, .int a3] (rf_MM w m) (some (.int r.1)) (rf_MM w r.2) := by
  refine rf_con j_X11_chain 50 ⟨by decide +kernel, rfl, Nat.le_of_ble_eq_true rfl⟩ (fun K C hE => ?_)
  unfold g_X11_chain at hg
  show rf_V 5 (rf_sh w) K 0 0 0 ([(0, .ref 0), (1, .int a1), (2, .int a2), (3, .int a3)], [], rf_MM w m)
  refine rf_seg C [(.aload 0, 1), (.invokeinterface 11 3, 3), (.iload 1, 1)] (pc' := 5) (S' := ([(0, .ref 0), (1, .int a1), (2, .int a2), (3, .int a3)], [.int a1, .ref 41], rf_MM w m)) (by decide +kernel) rfl trivial ?_
  obtain ⟨y0, m0, hc0, hg⟩ := rf_b_some hg
  refine rf_callv C rf_fit0 j_X6_isBase (ci := 6) (As := [.int a1]) (rest := []) mw_X6_isBase (c_X6_isBase hc0) (by decide) rfl (by decide) lk_11_297 rfl rfl (Nat.le_of_ble_eq_true rfl) (by decide +kernel) ?_
  show rf_V 5 (rf_sh w) K 0 0 8 ([(0, .ref 0), (1, .int a1), (2, .int a2), (3, .int a3)], [.int y0], rf_MM w m0)
  refine rf_if_eq C 15 23 (by decide +kernel) (fun hc => ?_) (fun hc => ?_)
  · replace hg := (if_pos hc).symm.trans hg
    refine rf_seg C [(.aload 0, 1), (.iconst 1, 1)] (pc' := 25) (S' := ([(0, .ref 0), (1, .int a1), (2, .int a2), (3, .int a3)], [.int 1, .ref 0], rf_MM w m0)) (by decide +kernel) rfl trivial ?_
    obtain ⟨y1, m1, hc1, hg⟩ := rf_b_some hg
    refine rf_callv C rf_fit0 j_X11_refused (ci := 11) (As := [.int 1]) (rest := []) mw_X11_refused (c_X11_refused hc1) (by decide) rfl (by decide) lk_11_105 rfl rfl (Nat.le_of_ble_eq_true rfl) (by decide +kernel) ?_
    show rf_V 5 (rf_sh w) K 0 0 28 ([(0, .ref 0), (1, .int a1), (2, .int a2), (3, .int a3)], [.int y1], rf_MM w m1)
    obtain rfl := Option.some.inj hg
    exact rf_iret C hE (by decide +kernel)
  · replace hg := (if_neg hc).symm.trans hg
    refine rf_seg C [(.aload 0, 1), (.invokeinterface 11 0, 3), (.iload 2, 1), (.iload 3, 1)] (pc' := 17) (S' := ([(0, .ref 0), (1, .int a1), (2, .int a2), (3, .int a3)], [.int a3, .int a2, .ref 1], rf_MM w m0)) (by decide +kernel) rfl trivial ?_
    obtain ⟨y2, m2, hc2, hg⟩ := rf_b_some hg
    refine rf_callv C rf_fit0 j_X5_isPair (ci := 5) (As := [.int a2, .int a3]) (rest := []) mw_X5_isPair (c_X5_isPair hc2) (by decide) rfl (by decide) lk_11_145 rfl rfl (Nat.le_of_ble_eq_true rfl) (by decide +kernel) ?_
    show rf_V 5 (rf_sh w) K 0 0 20 ([(0, .ref 0), (1, .int a1), (2, .int a2), (3, .int a3)], [.int y2], rf_MM w m2)
    refine rf_if_ne C 9 29 (by decide +kernel) (fun hc => ?_) (fun hc => ?_)
    · replace hg := (if_neg hc).symm.trans hg
      refine rf_seg C [(.aload 0, 1), (.invokeinterface 11 2, 3)] (pc' := 33) (S' := ([(0, .ref 0), (1, .int a1), (2, .int a2), (3, .int a3)], [.ref 26], rf_MM w m2)) (by decide +kernel) rfl trivial ?_
      obtain ⟨m3, hc3, hg⟩ := rf_bv_some hg
      refine rf_callv C rf_fit0 j_X3_freshenAll (ci := 3) (As := []) (rest := []) mw_X3_freshenAll (c_X3_freshenAll hc3) (by decide) rfl (by decide) lk_11_346 rfl rfl (Nat.le_of_ble_eq_true rfl) (by decide +kernel) ?_
      show rf_V 5 (rf_sh w) K 0 0 36 ([(0, .ref 0), (1, .int a1), (2, .int a2), (3, .int a3)], [], rf_MM w m3)
      refine rf_seg C [(.aload 0, 1), (.invokeinterface 11 6, 3), (.iload 1, 1), (.iload 2, 1), (.iload 3, 1)] (pc' := 43) (S' := ([(0, .ref 0), (1, .int a1), (2, .int a2), (3, .int a3)], [.int a3, .int a2, .int a1, .ref 175], rf_MM w m3)) (by decide +kernel) rfl trivial ?_
      obtain ⟨y4, m4, hc4, hg⟩ := rf_b_some hg
      refine rf_calls C rf_fit0 j_X11_sideOf (As := [.int a2, .int a3]) (rest := [.int a1, .ref 175]) mw_X11_sideOf (c_X11_sideOf hc4) (by decide) lk_11_399 rfl rfl (Nat.le_of_ble_eq_true rfl) (by decide +kernel) ?_
      show rf_V 5 (rf_sh w) K 0 0 46 ([(0, .ref 0), (1, .int a1), (2, .int a2), (3, .int a3)], [.int y4, .int a1, .ref 175], rf_MM w m4)
      refine rf_seg C [(.aload 0, 1), (.invokeinterface 11 1, 3), (.aload 0, 1), (.invokeinterface 11 10, 3)] (pc' := 54) (S' := ([(0, .ref 0), (1, .int a1), (2, .int a2), (3, .int a3)], [.int (m4.1 0 10), .ref 13, .int y4, .int a1, .ref 175], rf_MM w m4)) (by decide +kernel) rfl trivial ?_
      obtain ⟨y5, m5, hc5, hg⟩ := rf_b_some hg
      refine rf_callv C rf_fit0 j_X9_leastAngle (ci := 9) (As := [.int (m4.1 0 10)]) (rest := [.int y4, .int a1, .ref 175]) mw_X9_leastAngle (c_X9_leastAngle hc5) (by decide) rfl (by decide) lk_11_282 rfl rfl (Nat.le_of_ble_eq_true rfl) (by decide +kernel) ?_
      show rf_V 5 (rf_sh w) K 0 0 57 ([(0, .ref 0), (1, .int a1), (2, .int a2), (3, .int a3)], [.int y5, .int y4, .int a1, .ref 175], rf_MM w m5)
      obtain ⟨y6, m6, hc6, hg⟩ := rf_b_some hg
      refine rf_callv C rf_fit0 j_X4_seek (ci := 4) (As := [.int a1, .int y4, .int y5]) (rest := []) mw_X4_seek (c_X4_seek hc6) (by decide) rfl (by decide) lk_11_402 rfl rfl (Nat.le_of_ble_eq_true rfl) (by decide +kernel) ?_
      show rf_V 5 (rf_sh w) K 0 0 60 ([(0, .ref 0), (1, .int a1), (2, .int a2), (3, .int a3)], [.int y6], rf_MM w m6)
      refine rf_seg C [(.istore 4, 2), (.iload 4, 2)] (pc' := 64) (S' := ([(4, .int y6), (0, .ref 0), (1, .int a1), (2, .int a2), (3, .int a3)], [.int y6], rf_MM w m6)) (by decide +kernel) rfl trivial ?_
      refine rf_if_ne C 25 89 (by decide +kernel) (fun hc => ?_) (fun hc => ?_)
      · replace hg := (if_neg hc).symm.trans hg
        refine rf_seg C [(.aload 0, 1), (.iload 4, 2)] (pc' := 92) (S' := ([(4, .int y6), (0, .ref 0), (1, .int a1), (2, .int a2), (3, .int a3)], [.int y6, .ref 0], rf_MM w m6)) (by decide +kernel) rfl trivial ?_
        obtain ⟨y7, m7, hc7, hg⟩ := rf_b_some hg
        refine rf_callv C rf_fit0 j_X11_refused (ci := 11) (As := [.int y6]) (rest := []) mw_X11_refused (c_X11_refused hc7) (by decide) rfl (by decide) lk_11_105 rfl rfl (Nat.le_of_ble_eq_true rfl) (by decide +kernel) ?_
        show rf_V 5 (rf_sh w) K 0 0 95 ([(4, .int y6), (0, .ref 0), (1, .int a1), (2, .int a2), (3, .int a3)], [.int y7], rf_MM w m7)
        obtain rfl := Option.some.inj hg
        exact rf_iret C hE (by decide +kernel)
      · replace hg := (if_pos hc).symm.trans hg
        refine rf_seg C [(.aload 0, 1), (.aload 0, 1), (.invokeinterface 11 6, 3), (.invokeinterface 4 3, 3), (.aload 0, 1), (.invokeinterface 11 6, 3), (.invokeinterface 4 2, 3), (.isub, 1)] (pc' := 83) (S' := ([(4, .int y6), (0, .ref 0), (1, .int a1), (2, .int a2), (3, .int a3)], [.int ((m6.1 175 3) - (m6.1 175 2)), .ref 0], rf_MM w m6)) (by decide +kernel) rfl trivial ?_
        obtain ⟨y8, m8, hc8, hg⟩ := rf_b_some hg
        refine rf_callv C rf_fit0 j_X11_answered (ci := 11) (As := [.int ((m6.1 175 3) - (m6.1 175 2))]) (rest := []) mw_X11_answered (c_X11_answered hc8) (by decide) rfl (by decide) lk_11_119 rfl rfl (Nat.le_of_ble_eq_true rfl) (by decide +kernel) ?_
        show rf_V 5 (rf_sh w) K 0 0 86 ([(4, .int y6), (0, .ref 0), (1, .int a1), (2, .int a2), (3, .int a3)], [.int y8], rf_MM w m8)
        refine rf_goto C 9 95 (by decide +kernel) ?_
        obtain rfl := Option.some.inj hg
        exact rf_iret C hE (by decide +kernel)
    · replace hg := (if_pos hc).symm.trans hg
      refine rf_seg C [(.aload 0, 1), (.iconst 1, 1)] (pc' := 25) (S' := ([(0, .ref 0), (1, .int a1), (2, .int a2), (3, .int a3)], [.int 1, .ref 0], rf_MM w m2)) (by decide +kernel) rfl trivial ?_
      obtain ⟨y9, m9, hc9, hg⟩ := rf_b_some hg
      refine rf_callv C rf_fit0 j_X11_refused (ci := 11) (As := [.int 1]) (rest := []) mw_X11_refused (c_X11_refused hc9) (by decide) rfl (by decide) lk_11_105 rfl rfl (Nat.le_of_ble_eq_true rfl) (by decide +kernel) ?_
      show rf_V 5 (rf_sh w) K 0 0 28 ([(0, .ref 0), (1, .int a1), (2, .int a2), (3, .int a3)], [.int y9], rf_MM w m9)
      obtain rfl := Option.some.inj hg
      exact rf_iret C hE (by decide +kernel)
-- X11_close
abbrev j_X11_close : rf_J := (11, yX11_close, cX11_close, 4, (some .int))
theorem mw_X11_close : rf_mv j_X11_close (rf_R 11) 2 := ⟨⟨rf_mem 81 (by decide +kernel), rf_mem 82 (by decide +kernel), rf_mem 0 (by decide +kernel), rf_mem 82 (by decide +kernel)⟩, by decide +kernel, by decide⟩
def g_X11_close (w : rf_w) (m : rf_m) (a1 : Int32) (a2 : Int32) : Option (Int32 × rf_m) := rf_b (g_X6_isBase w m a1) fun y0 m0 => (if y0 = 0 then rf_b (g_X11_refused w m0 1) fun y1 m1 => some (y1, m1) else rf_b (g_X6_isBase w m0 a2) fun y2 m2 => (if y2 = 0 then rf_b (g_X11_refused w m2 1) fun y3 m3 => some (y3, m3) else rf_b (g_X6_sideAt w m2 a1) fun y4 m4 => rf_b (g_X6_sideAt w m4 a2) fun y5 m5 => (if y4 = y5 then rf_b (g_X11_refused w m5 1) fun y13 m13 => some (y13, m13) else rf_bv (g_X3_freshenAll w m5) fun m6 => rf_b (g_X6_sideAt w m6 a2) fun y7 m7 => rf_b (g_X9_leastAngle w m7 (m7.1 0 10)) fun y8 m8 => rf_b (g_X4_seek w m8 a1 y7 y8) fun y9 m9 => (if y9 = 0 then rf_b (g_X4_apartFrom w m9 a2) fun y11 m11 => rf_b (g_X11_answered w m11 y11) fun y12 m12 => some (y12, m12) else rf_b (g_X11_refused w m9 y9) fun y10 m10 => some (y10, m10)))))
theorem c_X11_close {w : rf_w} {m : rf_m} {a1 : Int32} {a2 : Int32} {r : Int32 × rf_m} (hg : g_X11_close w m a1 a2 = some r) : rf_Con j_X11_close 50 (rf_sh w) [.ref 0, .int a1, .int a2] (rf_MM w m) (some (.int r.1)) (rf_MM w r.2) := by
  refine rf_con j_X11_close 50 ⟨by decide +kernel, rfl, Nat.le_of_ble_eq_true rfl⟩ (fun K C hE => ?_)
  unfold g_X11_close at hg
  show rf_V 4 (rf_sh w) K 0 0 0 ([(0, .ref 0), (1, .int a1), (2, .int a2)], [], rf_MM w m)
  refine rf_seg C [(.aload 0, 1), (.invokeinterface 11 3, 3), (.iload 1, 1)] (pc' := 5) (S' := ([(0, .ref 0), (1, .int a1), (2, .int a2)], [.int a1, .ref 41], rf_MM w m)) (by decide +kernel) rfl trivial ?_
  obtain ⟨y0, m0, hc0, hg⟩ := rf_b_some hg
  refine rf_callv C rf_fit0 j_X6_isBase (ci := 6) (As := [.int a1]) (rest := []) mw_X6_isBase (c_X6_isBase hc0) (by decide) rfl (by decide) lk_11_297 rfl rfl (Nat.le_of_ble_eq_true rfl) (by decide +kernel) ?_
  show rf_V 4 (rf_sh w) K 0 0 8 ([(0, .ref 0), (1, .int a1), (2, .int a2)], [.int y0], rf_MM w m0)
  refine rf_if_eq C 33 41 (by decide +kernel) (fun hc => ?_) (fun hc => ?_)
  · replace hg := (if_pos hc).symm.trans hg
    refine rf_seg C [(.aload 0, 1), (.iconst 1, 1)] (pc' := 43) (S' := ([(0, .ref 0), (1, .int a1), (2, .int a2)], [.int 1, .ref 0], rf_MM w m0)) (by decide +kernel) rfl trivial ?_
    obtain ⟨y1, m1, hc1, hg⟩ := rf_b_some hg
    refine rf_callv C rf_fit0 j_X11_refused (ci := 11) (As := [.int 1]) (rest := []) mw_X11_refused (c_X11_refused hc1) (by decide) rfl (by decide) lk_11_105 rfl rfl (Nat.le_of_ble_eq_true rfl) (by decide +kernel) ?_
    show rf_V 4 (rf_sh w) K 0 0 46 ([(0, .ref 0), (1, .int a1), (2, .int a2)], [.int y1], rf_MM w m1)
    obtain rfl := Option.some.inj hg
    exact rf_iret C hE (by decide +kernel)
  · replace hg := (if_neg hc).symm.trans hg
    refine rf_seg C [(.aload 0, 1), (.invokeinterface 11 3, 3), (.iload 2, 1)] (pc' := 16) (S' := ([(0, .ref 0), (1, .int a1), (2, .int a2)], [.int a2, .ref 41], rf_MM w m0)) (by decide +kernel) rfl trivial ?_
    obtain ⟨y2, m2, hc2, hg⟩ := rf_b_some hg
    refine rf_callv C rf_fit0 j_X6_isBase (ci := 6) (As := [.int a2]) (rest := []) mw_X6_isBase (c_X6_isBase hc2) (by decide) rfl (by decide) lk_11_297 rfl rfl (Nat.le_of_ble_eq_true rfl) (by decide +kernel) ?_
    show rf_V 4 (rf_sh w) K 0 0 19 ([(0, .ref 0), (1, .int a1), (2, .int a2)], [.int y2], rf_MM w m2)
    refine rf_if_eq C 22 41 (by decide +kernel) (fun hc => ?_) (fun hc => ?_)
    · replace hg := (if_pos hc).symm.trans hg
      refine rf_seg C [(.aload 0, 1), (.iconst 1, 1)] (pc' := 43) (S' := ([(0, .ref 0), (1, .int a1), (2, .int a2)], [.int 1, .ref 0], rf_MM w m2)) (by decide +kernel) rfl trivial ?_
      obtain ⟨y3, m3, hc3, hg⟩ := rf_b_some hg
      refine rf_callv C rf_fit0 j_X11_refused (ci := 11) (As := [.int 1]) (rest := []) mw_X11_refused (c_X11_refused hc3) (by decide) rfl (by decide) lk_11_105 rfl rfl (Nat.le_of_ble_eq_true rfl) (by decide +kernel) ?_
      show rf_V 4 (rf_sh w) K 0 0 46 ([(0, .ref 0), (1, .int a1), (2, .int a2)], [.int y3], rf_MM w m3)
      obtain rfl := Option.some.inj hg
      exact rf_iret C hE (by decide +kernel)
    · replace hg := (if_neg hc).symm.trans hg
      refine rf_seg C [(.aload 0, 1), (.invokeinterface 11 3, 3), (.iload 1, 1)] (pc' := 27) (S' := ([(0, .ref 0), (1, .int a1), (2, .int a2)], [.int a1, .ref 41], rf_MM w m2)) (by decide +kernel) rfl trivial ?_
      obtain ⟨y4, m4, hc4, hg⟩ := rf_b_some hg
      refine rf_callv C rf_fit0 j_X6_sideAt (ci := 6) (As := [.int a1]) (rest := []) mw_X6_sideAt (c_X6_sideAt hc4) (by decide) rfl (by decide) lk_11_417 rfl rfl (Nat.le_of_ble_eq_true rfl) (by decide +kernel) ?_
      show rf_V 4 (rf_sh w) K 0 0 30 ([(0, .ref 0), (1, .int a1), (2, .int a2)], [.int y4], rf_MM w m4)
      refine rf_seg C [(.aload 0, 1), (.invokeinterface 11 3, 3), (.iload 2, 1)] (pc' := 35) (S' := ([(0, .ref 0), (1, .int a1), (2, .int a2)], [.int a2, .ref 41, .int y4], rf_MM w m4)) (by decide +kernel) rfl trivial ?_
      obtain ⟨y5, m5, hc5, hg⟩ := rf_b_some hg
      refine rf_callv C rf_fit0 j_X6_sideAt (ci := 6) (As := [.int a2]) (rest := [.int y4]) mw_X6_sideAt (c_X6_sideAt hc5) (by decide) rfl (by decide) lk_11_417 rfl rfl (Nat.le_of_ble_eq_true rfl) (by decide +kernel) ?_
      show rf_V 4 (rf_sh w) K 0 0 38 ([(0, .ref 0), (1, .int a1), (2, .int a2)], [.int y5, .int y4], rf_MM w m5)
      refine rf_icmp_ne C 9 47 (by decide +kernel) (fun hc => ?_) (fun hc => ?_)
      · replace hg := (if_neg hc).symm.trans hg
        refine rf_seg C [(.aload 0, 1), (.invokeinterface 11 2, 3)] (pc' := 51) (S' := ([(0, .ref 0), (1, .int a1), (2, .int a2)], [.ref 26], rf_MM w m5)) (by decide +kernel) rfl trivial ?_
        obtain ⟨m6, hc6, hg⟩ := rf_bv_some hg
        refine rf_callv C rf_fit0 j_X3_freshenAll (ci := 3) (As := []) (rest := []) mw_X3_freshenAll (c_X3_freshenAll hc6) (by decide) rfl (by decide) lk_11_346 rfl rfl (Nat.le_of_ble_eq_true rfl) (by decide +kernel) ?_
        show rf_V 4 (rf_sh w) K 0 0 54 ([(0, .ref 0), (1, .int a1), (2, .int a2)], [], rf_MM w m6)
        refine rf_seg C [(.aload 0, 1), (.invokeinterface 11 6, 3), (.iload 1, 1), (.aload 0, 1), (.invokeinterface 11 3, 3), (.iload 2, 1)] (pc' := 64) (S' := ([(0, .ref 0), (1, .int a1), (2, .int a2)], [.int a2, .ref 41, .int a1, .ref 175], rf_MM w m6)) (by decide +kernel) rfl trivial ?_
        obtain ⟨y7, m7, hc7, hg⟩ := rf_b_some hg
        refine rf_callv C rf_fit0 j_X6_sideAt (ci := 6) (As := [.int a2]) (rest := [.int a1, .ref 175]) mw_X6_sideAt (c_X6_sideAt hc7) (by decide) rfl (by decide) lk_11_417 rfl rfl (Nat.le_of_ble_eq_true rfl) (by decide +kernel) ?_
        show rf_V 4 (rf_sh w) K 0 0 67 ([(0, .ref 0), (1, .int a1), (2, .int a2)], [.int y7, .int a1, .ref 175], rf_MM w m7)
        refine rf_seg C [(.aload 0, 1), (.invokeinterface 11 1, 3), (.aload 0, 1), (.invokeinterface 11 10, 3)] (pc' := 75) (S' := ([(0, .ref 0), (1, .int a1), (2, .int a2)], [.int (m7.1 0 10), .ref 13, .int y7, .int a1, .ref 175], rf_MM w m7)) (by decide +kernel) rfl trivial ?_
        obtain ⟨y8, m8, hc8, hg⟩ := rf_b_some hg
        refine rf_callv C rf_fit0 j_X9_leastAngle (ci := 9) (As := [.int (m7.1 0 10)]) (rest := [.int y7, .int a1, .ref 175]) mw_X9_leastAngle (c_X9_leastAngle hc8) (by decide) rfl (by decide) lk_11_282 rfl rfl (Nat.le_of_ble_eq_true rfl) (by decide +kernel) ?_
        show rf_V 4 (rf_sh w) K 0 0 78 ([(0, .ref 0), (1, .int a1), (2, .int a2)], [.int y8, .int y7, .int a1, .ref 175], rf_MM w m8)
        obtain ⟨y9, m9, hc9, hg⟩ := rf_b_some hg
        refine rf_callv C rf_fit0 j_X4_seek (ci := 4) (As := [.int a1, .int y7, .int y8]) (rest := []) mw_X4_seek (c_X4_seek hc9) (by decide) rfl (by decide) lk_11_402 rfl rfl (Nat.le_of_ble_eq_true rfl) (by decide +kernel) ?_
        show rf_V 4 (rf_sh w) K 0 0 81 ([(0, .ref 0), (1, .int a1), (2, .int a2)], [.int y9], rf_MM w m9)
        refine rf_seg C [(.istore 3, 1), (.iload 3, 1)] (pc' := 83) (S' := ([(3, .int y9), (0, .ref 0), (1, .int a1), (2, .int a2)], [.int y9], rf_MM w m9)) (by decide +kernel) rfl trivial ?_
        refine rf_if_ne C 18 101 (by decide +kernel) (fun hc => ?_) (fun hc => ?_)
        · replace hg := (if_neg hc).symm.trans hg
          refine rf_seg C [(.aload 0, 1), (.iload 3, 1)] (pc' := 103) (S' := ([(3, .int y9), (0, .ref 0), (1, .int a1), (2, .int a2)], [.int y9, .ref 0], rf_MM w m9)) (by decide +kernel) rfl trivial ?_
          obtain ⟨y10, m10, hc10, hg⟩ := rf_b_some hg
          refine rf_callv C rf_fit0 j_X11_refused (ci := 11) (As := [.int y9]) (rest := []) mw_X11_refused (c_X11_refused hc10) (by decide) rfl (by decide) lk_11_105 rfl rfl (Nat.le_of_ble_eq_true rfl) (by decide +kernel) ?_
          show rf_V 4 (rf_sh w) K 0 0 106 ([(3, .int y9), (0, .ref 0), (1, .int a1), (2, .int a2)], [.int y10], rf_MM w m10)
          obtain rfl := Option.some.inj hg
          exact rf_iret C hE (by decide +kernel)
        · replace hg := (if_pos hc).symm.trans hg
          refine rf_seg C [(.aload 0, 1), (.aload 0, 1), (.invokeinterface 11 6, 3), (.iload 2, 1)] (pc' := 92) (S' := ([(3, .int y9), (0, .ref 0), (1, .int a1), (2, .int a2)], [.int a2, .ref 175, .ref 0], rf_MM w m9)) (by decide +kernel) rfl trivial ?_
          obtain ⟨y11, m11, hc11, hg⟩ := rf_b_some hg
          refine rf_callv C rf_fit0 j_X4_apartFrom (ci := 4) (As := [.int a2]) (rest := [.ref 0]) mw_X4_apartFrom (c_X4_apartFrom hc11) (by decide) rfl (by decide) lk_11_420 rfl rfl (Nat.le_of_ble_eq_true rfl) (by decide +kernel) ?_
          show rf_V 4 (rf_sh w) K 0 0 95 ([(3, .int y9), (0, .ref 0), (1, .int a1), (2, .int a2)], [.int y11, .ref 0], rf_MM w m11)
          obtain ⟨y12, m12, hc12, hg⟩ := rf_b_some hg
          refine rf_callv C rf_fit0 j_X11_answered (ci := 11) (As := [.int y11]) (rest := []) mw_X11_answered (c_X11_answered hc12) (by decide) rfl (by decide) lk_11_119 rfl rfl (Nat.le_of_ble_eq_true rfl) (by decide +kernel) ?_
          show rf_V 4 (rf_sh w) K 0 0 98 ([(3, .int y9), (0, .ref 0), (1, .int a1), (2, .int a2)], [.int y12], rf_MM w m12)
          refine rf_goto C 8 106 (by decide +kernel) ?_
          obtain rfl := Option.some.inj hg
          exact rf_iret C hE (by decide +kernel)
      · replace hg := (if_pos hc).symm.trans hg
        refine rf_seg C [(.aload 0, 1), (.iconst 1, 1)] (pc' := 43) (S' := ([(0, .ref 0), (1, .int a1), (2, .int a2)], [.int 1, .ref 0], rf_MM w m5)) (by decide +kernel) rfl trivial ?_
        obtain ⟨y13, m13, hc13, hg⟩ := rf_b_some hg
        refine rf_callv C rf_fit0 j_X11_refused (ci := 11) (As := [.int 1]) (rest := []) mw_X11_refused (c_X11_refused hc13) (by decide) rfl (by decide) lk_11_105 rfl rfl (Nat.le_of_ble_eq_true rfl) (by decide +kernel) ?_
        show rf_V 4 (rf_sh w) K 0 0 46 ([(0, .ref 0), (1, .int a1), (2, .int a2)], [.int y13], rf_MM w m13)
        obtain rfl := Option.some.inj hg
        exact rf_iret C hE (by decide +kernel)
-- X14_wordOf
abbrev j_X14_wordOf : rf_J := (14, yX14_wordOf, cX14_wordOf, 4, (some .long))
theorem mw_X14_wordOf : rf_ms j_X14_wordOf 1 := ⟨⟨rf_mem 48 (by decide +kernel), rf_mem 0 (by decide +kernel), rf_mem 48 (by decide +kernel)⟩, by decide +kernel, by decide⟩
def g_X14_wordOf_4_b (w : rf_w) (rec4 : Nat → Int64 → Int32 → rf_m → Option (Int64 × rf_m)) (a0 : Nat) (a1 : Int64) (a3 : Int32) (m : rf_m) : Option (Int64 × rf_m) := rf_g (rf_isS a0) (rf_b (g_J0_length_8abf5 w m a0) fun y1 m1 => (if y1 ≤ a3 then some (a1, m1) else rf_b (g_J0_charAt_5068e w m1 a0 a3) fun y2 m2 => rf_vl ((32 * a1) + (Int32.toInt64 ((y2 - 97) + 1))) fun x3 => rec4 a0 x3 (a3 + 1) m2))
def g_X14_wordOf_4 (w : rf_w) : Nat → Nat → Int64 → Int32 → rf_m → Option (Int64 × rf_m)
  | 0, _, _, _, _ => none
  | n + 1, a0, a1, a3, m => g_X14_wordOf_4_b w (g_X14_wordOf_4 w n) a0 a1 a3 m
def g_X14_wordOf (w : rf_w) (m : rf_m) (a0 : Nat) : Option (Int64 × rf_m) := rf_g (rf_isS a0) (g_X14_wordOf_4 w rf_fuel a0 0 0 m)
theorem s_X14_wordOf_4_b {w : rf_w} {K : rf_K} {r : Int64 × rf_m} (C : rf_Ctx 14 cX14_wordOf 4 5 (rf_sh w) K) (hE : rf_End (some .long) K (rf_sh w) 0 0 (some (.long r.1)) (rf_MM w r.2)) {rec4 : Nat → Int64 → Int32 → rf_m → Option (Int64 × rf_m)} (hr4 : ∀ (a0 : Nat) (a1 : Int64) (a3 : Int32) (m : rf_m), rec4 a0 a1 a3 m = some r → rf_V 4 (rf_sh w) K 0 0 4 ([(0, .ref a0), (1, .long a1), (3, .int a3)], [], rf_MM w m)) (a0 : Nat) (a1 : Int64) (a3 : Int32) (m : rf_m) (hg : g_X14_wordOf_4_b w rec4 a0 a1 a3 m = some r) : rf_V 4 (rf_sh w) K 0 0 4 ([(0, .ref a0), (1, .long a1), (3, .int a3)], [], rf_MM w m) := by
  unfold g_X14_wordOf_4_b at hg
  obtain ⟨q0, hg⟩ := rf_g_some hg
  refine rf_seg C [(.iload 3, 1), (.aload 0, 1)] (pc' := 6) (S' := ([(0, .ref a0), (1, .long a1), (3, .int a3)], [.ref a0, .int a3], rf_MM w m)) (by decide +kernel) rfl trivial ?_
  obtain ⟨y1, m1, hc1, hg⟩ := rf_b_some hg
  refine rf_callz C rf_fit0 j_J0_length_8abf5 (As := []) (rest := [.int a3]) mw_J0_length_8abf5 (c_J0_length_8abf5 hc1) (by decide) q0 lk_14_496 rfl rfl (Nat.le_of_ble_eq_true rfl) (by decide +kernel) ?_
  show rf_V 4 (rf_sh w) K 0 0 9 ([(0, .ref a0), (1, .long a1), (3, .int a3)], [.int y1, .int a3], rf_MM w m1)
  refine rf_icmp_ge C 27 36 (by decide +kernel) (fun hc => ?_) (fun hc => ?_)
  · replace hg := (if_pos hc).symm.trans hg
    refine rf_seg C [(.lload 1, 1)] (pc' := 37) (S' := ([(0, .ref a0), (1, .long a1), (3, .int a3)], [.long a1], rf_MM w m1)) (by decide +kernel) rfl trivial ?_
    obtain rfl := Option.some.inj hg
    exact rf_lret C hE (by decide +kernel)
  · replace hg := (if_neg hc).symm.trans hg
    refine rf_seg C [(.goto_w 32, 3), (.lload 1, 1), (.lmul, 1), (.aload 0, 1), (.iload 3, 1)] (pc' := 19) (S' := ([(0, .ref a0), (1, .long a1), (3, .int a3)], [.int a3, .ref a0, .long (32 * a1)], rf_MM w m1)) (by decide +kernel) rfl trivial ?_
    obtain ⟨y2, m2, hc2, hg⟩ := rf_b_some hg
    refine rf_callz C rf_fit0 j_J0_charAt_5068e (As := [.int a3]) (rest := [.long (32 * a1)]) mw_J0_charAt_5068e (c_J0_charAt_5068e hc2) (by decide) q0 lk_14_504 rfl rfl (Nat.le_of_ble_eq_true rfl) (by decide +kernel) ?_
    show rf_V 4 (rf_sh w) K 0 0 22 ([(0, .ref a0), (1, .long a1), (3, .int a3)], [.int y2, .long (32 * a1)], rf_MM w m2)
    refine rf_seg C [(.iconst 97, 2), (.isub, 1), (.iconst 1, 1), (.iadd, 1), (.i2l, 1), (.ladd, 1)] (pc' := 29) (S' := ([(0, .ref a0), (1, .long a1), (3, .int a3)], [.long ((32 * a1) + (Int32.toInt64 ((y2 - 97) + 1)))], rf_MM w m2)) (by decide +kernel) rfl trivial ?_
    obtain ⟨x3, hx3, hg⟩ := rf_vl_some hg
    refine rf_vl_top hx3 ?_
    refine rf_seg C [(.lstore 1, 1), (.iinc 3 1, 3)] (pc' := 33) (S' := ([(3, .int (a3 + 1)), (1, .long x3), (0, .ref a0)], [], rf_MM w m2)) (by decide +kernel) rfl trivial ?_
    refine rf_goto C (-29) 4 (by decide +kernel) ?_
    refine rf_few [2, 1, 0] rfl ?_
    exact hr4 a0 x3 (a3 + 1) m2 hg
theorem s_X14_wordOf_4 {w : rf_w} {K : rf_K} {r : Int64 × rf_m} (C : rf_Ctx 14 cX14_wordOf 4 5 (rf_sh w) K) (hE : rf_End (some .long) K (rf_sh w) 0 0 (some (.long r.1)) (rf_MM w r.2)) (n : Nat) : ∀ (a0 : Nat) (a1 : Int64) (a3 : Int32) (m : rf_m), g_X14_wordOf_4 w n a0 a1 a3 m = some r → rf_V 4 (rf_sh w) K 0 0 4 ([(0, .ref a0), (1, .long a1), (3, .int a3)], [], rf_MM w m) := by
  induction n with
  | zero => intro a0 a1 a3 m hg; cases hg
  | succ n ih => intro a0 a1 a3 m hg; exact s_X14_wordOf_4_b C hE ih a0 a1 a3 m hg
theorem c_X14_wordOf {w : rf_w} {m : rf_m} {a0 : Nat} {r : Int64 × rf_m} (hg : g_X14_wordOf w m a0 = some r) : rf_Con j_X14_wordOf 5 (rf_sh w) [.ref a0] (rf_MM w m) (some (.long r.1)) (rf_MM w r.2) := by
  refine rf_con j_X14_wordOf 5 ⟨by decide +kernel, rfl, Nat.le_of_ble_eq_true rfl⟩ (fun K C hE => ?_)
  unfold g_X14_wordOf at hg
  show rf_V 4 (rf_sh w) K 0 0 0 ([(0, .ref a0)], [], rf_MM w m)
  obtain ⟨q0, hg⟩ := rf_g_some hg
  refine rf_seg C [(.goto_w 0, 1), (.lstore 1, 1), (.iconst 0, 1), (.istore 3, 1)] (pc' := 4) (S' := ([(3, .int 0), (1, .long 0), (0, .ref a0)], [], rf_MM w m)) (by decide +kernel) rfl trivial ?_
  refine rf_few [2, 1, 0] rfl ?_
  exact s_X14_wordOf_4 C hE rf_fuel a0 0 0 m hg
