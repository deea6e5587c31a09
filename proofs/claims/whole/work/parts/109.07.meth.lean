/-! methods as functions, and their contracts (written by wip/tool/gen.py) -/
-- X14_north
abbrev j_X14_north : rf_J := (14, yX14_north, cX14_north, 3, (some .int))
theorem mw_X14_north : rf_mv j_X14_north (rf_R 14) 2 := ⟨⟨rf_mem 90 (by decide +kernel), rf_mem 90 (by decide +kernel), rf_mem 0 (by decide +kernel), rf_mem 90 (by decide +kernel)⟩, by decide +kernel, by decide⟩
def g_X14_north (w : rf_w) (m : rf_m) (a1 : Int32) (a2 : Int32) : Option (Int32 × rf_m) := rf_b (g_X14_isMark w (rf_i m 206 0 0) a1) fun y0 m0 => (if y0 = 0 then some ((-1), m0) else rf_b (g_X14_isMark w m0 a2) fun y1 m1 => (if y1 = 0 then some ((-1), m1) else (if a1 = a2 then some ((-1), m1) else rf_bv (g_X14_norths w m1) fun m2 => rf_g (rf_in ((30 * a1) + a2) 900) ((if (m2.1 293 (Int32.toNatClampNeg ((30 * a1) + a2))) = ((-1)) then some ((-2), m2) else rf_g (rf_in ((30 * a1) + a2) 900) (some (m2.1 292 (Int32.toNatClampNeg ((30 * a1) + a2)), m2)))))))
theorem c_X14_north {w : rf_w} {m : rf_m} {a1 : Int32} {a2 : Int32} {r : Int32 × rf_m} (hg : g_X14_north w m a1 a2 = some r) : rf_Con j_X14_north 11 (rf_sh w) [.ref 206, .int a1, .int a2] (rf_MM w m) (some (.int r.1)) (rf_MM w r.2) := by
  refine rf_con j_X14_north 11 ⟨by decide +kernel, rfl, Nat.le_of_ble_eq_true rfl⟩ (fun K C hE => ?_)
  unfold g_X14_north at hg
  show rf_V 3 (rf_sh w) K 0 0 0 ([(0, .ref 206), (1, .int a1), (2, .int a2)], [], rf_MM w m)
  refine rf_seg C [(.aload 0, 1), (.iconst 0, 1), (.multianewarray 14 0, 3), (.aload 0, 1), (.iload 1, 1)] (pc' := 7) (S' := ([(0, .ref 206), (1, .int a1), (2, .int a2)], [.int a1, .ref 206], rf_MM w (rf_i m 206 0 0))) (by decide +kernel) rfl trivial ?_
  obtain ⟨y0, m0, hc0, hg⟩ := rf_b_some hg
  refine rf_callv C rf_fit0 j_X14_isMark (ci := 14) (As := [.int a1]) (rest := []) mw_X14_isMark (c_X14_isMark hc0) (by decide) rfl (by decide) lk_14_360 rfl rfl (Nat.le_of_ble_eq_true rfl) (by decide +kernel) ?_
  show rf_V 3 (rf_sh w) K 0 0 10 ([(0, .ref 206), (1, .int a1), (2, .int a2)], [.int y0], rf_MM w m0)
  refine rf_if_eq C 16 26 (by decide +kernel) (fun hc => ?_) (fun hc => ?_)
  · replace hg := (if_pos hc).symm.trans hg
    refine rf_seg C [(.iconst (-1), 1)] (pc' := 27) (S' := ([(0, .ref 206), (1, .int a1), (2, .int a2)], [.int ((-1))], rf_MM w m0)) (by decide +kernel) rfl trivial ?_
    obtain rfl := Option.some.inj hg
    exact rf_iret C hE (by decide +kernel)
  · replace hg := (if_neg hc).symm.trans hg
    refine rf_seg C [(.aload 0, 1), (.iload 2, 1)] (pc' := 15) (S' := ([(0, .ref 206), (1, .int a1), (2, .int a2)], [.int a2, .ref 206], rf_MM w m0)) (by decide +kernel) rfl trivial ?_
    obtain ⟨y1, m1, hc1, hg⟩ := rf_b_some hg
    refine rf_callv C rf_fit0 j_X14_isMark (ci := 14) (As := [.int a2]) (rest := []) mw_X14_isMark (c_X14_isMark hc1) (by decide) rfl (by decide) lk_14_360 rfl rfl (Nat.le_of_ble_eq_true rfl) (by decide +kernel) ?_
    show rf_V 3 (rf_sh w) K 0 0 18 ([(0, .ref 206), (1, .int a1), (2, .int a2)], [.int y1], rf_MM w m1)
    refine rf_if_eq C 8 26 (by decide +kernel) (fun hc => ?_) (fun hc => ?_)
    · replace hg := (if_pos hc).symm.trans hg
      refine rf_seg C [(.iconst (-1), 1)] (pc' := 27) (S' := ([(0, .ref 206), (1, .int a1), (2, .int a2)], [.int ((-1))], rf_MM w m1)) (by decide +kernel) rfl trivial ?_
      obtain rfl := Option.some.inj hg
      exact rf_iret C hE (by decide +kernel)
    · replace hg := (if_neg hc).symm.trans hg
      refine rf_seg C [(.iload 1, 1), (.iload 2, 1)] (pc' := 23) (S' := ([(0, .ref 206), (1, .int a1), (2, .int a2)], [.int a2, .int a1], rf_MM w m1)) (by decide +kernel) rfl trivial ?_
      refine rf_icmp_ne C 5 28 (by decide +kernel) (fun hc => ?_) (fun hc => ?_)
      · replace hg := (if_neg hc).symm.trans hg
        refine rf_seg C [(.aload 0, 1)] (pc' := 29) (S' := ([(0, .ref 206), (1, .int a1), (2, .int a2)], [.ref 206], rf_MM w m1)) (by decide +kernel) rfl trivial ?_
        obtain ⟨m2, hc2, hg⟩ := rf_bv_some hg
        refine rf_callv C rf_fit0 j_X14_norths (ci := 14) (As := []) (rest := []) mw_X14_norths (c_X14_norths hc2) (by decide) rfl (by decide) lk_14_890 rfl rfl (Nat.le_of_ble_eq_true rfl) (by decide +kernel) ?_
        show rf_V 3 (rf_sh w) K 0 0 32 ([(0, .ref 206), (1, .int a1), (2, .int a2)], [], rf_MM w m2)
        obtain ⟨q3, hg⟩ := rf_g_some hg
        refine rf_seg C [(.aload 0, 1), (.invokeinterface 14 131, 3), (.iconst 30, 2), (.iload 1, 1), (.imul, 1), (.iload 2, 1), (.iadd, 1), (.iaload, 1), (.iconst (-1), 1)] (pc' := 44) (S' := ([(0, .ref 206), (1, .int a1), (2, .int a2)], [.int ((-1)), .int (m2.1 293 (Int32.toNatClampNeg ((30 * a1) + a2)))], rf_MM w m2)) (by decide +kernel) rfl (rf_in_of q3) ?_
        refine rf_icmp_ne C 8 52 (by decide +kernel) (fun hc => ?_) (fun hc => ?_)
        · replace hg := (if_neg hc).symm.trans hg
          obtain ⟨q4, hg⟩ := rf_g_some hg
          refine rf_seg C [(.aload 0, 1), (.invokeinterface 14 130, 3), (.iconst 30, 2), (.iload 1, 1), (.imul, 1), (.iload 2, 1), (.iadd, 1), (.iaload, 1)] (pc' := 63) (S' := ([(0, .ref 206), (1, .int a1), (2, .int a2)], [.int (m2.1 292 (Int32.toNatClampNeg ((30 * a1) + a2)))], rf_MM w m2)) (by decide +kernel) rfl (rf_in_of q4) ?_
          obtain rfl := Option.some.inj hg
          exact rf_iret C hE (by decide +kernel)
        · replace hg := (if_pos hc).symm.trans hg
          refine rf_seg C [(.iconst (-2), 2)] (pc' := 49) (S' := ([(0, .ref 206), (1, .int a1), (2, .int a2)], [.int ((-2))], rf_MM w m2)) (by decide +kernel) rfl trivial ?_
          refine rf_goto C 14 63 (by decide +kernel) ?_
          obtain rfl := Option.some.inj hg
          exact rf_iret C hE (by decide +kernel)
      · replace hg := (if_pos hc).symm.trans hg
        refine rf_seg C [(.iconst (-1), 1)] (pc' := 27) (S' := ([(0, .ref 206), (1, .int a1), (2, .int a2)], [.int ((-1))], rf_MM w m1)) (by decide +kernel) rfl trivial ?_
        obtain rfl := Option.some.inj hg
        exact rf_iret C hE (by decide +kernel)
-- X14_steps
abbrev j_X14_steps : rf_J := (14, yX14_steps, cX14_steps, 3, (some .int))
theorem mw_X14_steps : rf_mv j_X14_steps (rf_R 14) 2 := ⟨⟨rf_mem 91 (by decide +kernel), rf_mem 91 (by decide +kernel), rf_mem 0 (by decide +kernel), rf_mem 91 (by decide +kernel)⟩, by decide +kernel, by decide⟩
def g_X14_steps (w : rf_w) (m : rf_m) (a1 : Int32) (a2 : Int32) : Option (Int32 × rf_m) := rf_b (g_X14_isMark w (rf_i m 206 0 0) a1) fun y0 m0 => (if y0 = 0 then some ((-1), m0) else rf_b (g_X14_isMark w m0 a2) fun y1 m1 => (if y1 = 0 then some ((-1), m1) else (if a1 = a2 then some ((-1), m1) else rf_bv (g_X14_norths w m1) fun m2 => rf_g (rf_in ((30 * a1) + a2) 900) ((if (m2.1 293 (Int32.toNatClampNeg ((30 * a1) + a2))) = ((-1)) then some ((-2), m2) else rf_g (rf_in ((30 * a1) + a2) 900) (some (m2.1 293 (Int32.toNatClampNeg ((30 * a1) + a2)), m2)))))))
theorem c_X14_steps {w : rf_w} {m : rf_m} {a1 : Int32} {a2 : Int32} {r : Int32 × rf_m} (hg : g_X14_steps w m a1 a2 = some r) : rf_Con j_X14_steps 11 (rf_sh w) [.ref 206, .int a1, .int a2] (rf_MM w m) (some (.int r.1)) (rf_MM w r.2) := by
  refine rf_con j_X14_steps 11 ⟨by decide +kernel, rfl, Nat.le_of_ble_eq_true rfl⟩ (fun K C hE => ?_)
  unfold g_X14_steps at hg
  show rf_V 3 (rf_sh w) K 0 0 0 ([(0, .ref 206), (1, .int a1), (2, .int a2)], [], rf_MM w m)
  refine rf_seg C [(.aload 0, 1), (.iconst 0, 1), (.multianewarray 14 0, 3), (.aload 0, 1), (.iload 1, 1)] (pc' := 7) (S' := ([(0, .ref 206), (1, .int a1), (2, .int a2)], [.int a1, .ref 206], rf_MM w (rf_i m 206 0 0))) (by decide +kernel) rfl trivial ?_
  obtain ⟨y0, m0, hc0, hg⟩ := rf_b_some hg
  refine rf_callv C rf_fit0 j_X14_isMark (ci := 14) (As := [.int a1]) (rest := []) mw_X14_isMark (c_X14_isMark hc0) (by decide) rfl (by decide) lk_14_360 rfl rfl (Nat.le_of_ble_eq_true rfl) (by decide +kernel) ?_
  show rf_V 3 (rf_sh w) K 0 0 10 ([(0, .ref 206), (1, .int a1), (2, .int a2)], [.int y0], rf_MM w m0)
  refine rf_if_eq C 16 26 (by decide +kernel) (fun hc => ?_) (fun hc => ?_)
  · replace hg := (if_pos hc).symm.trans hg
    refine rf_seg C [(.iconst (-1), 1)] (pc' := 27) (S' := ([(0, .ref 206), (1, .int a1), (2, .int a2)], [.int ((-1))], rf_MM w m0)) (by decide +kernel) rfl trivial ?_
    obtain rfl := Option.some.inj hg
    exact rf_iret C hE (by decide +kernel)
  · replace hg := (if_neg hc).symm.trans hg
    refine rf_seg C [(.aload 0, 1), (.iload 2, 1)] (pc' := 15) (S' := ([(0, .ref 206), (1, .int a1), (2, .int a2)], [.int a2, .ref 206], rf_MM w m0)) (by decide +kernel) rfl trivial ?_
    obtain ⟨y1, m1, hc1, hg⟩ := rf_b_some hg
    refine rf_callv C rf_fit0 j_X14_isMark (ci := 14) (As := [.int a2]) (rest := []) mw_X14_isMark (c_X14_isMark hc1) (by decide) rfl (by decide) lk_14_360 rfl rfl (Nat.le_of_ble_eq_true rfl) (by decide +kernel) ?_
    show rf_V 3 (rf_sh w) K 0 0 18 ([(0, .ref 206), (1, .int a1), (2, .int a2)], [.int y1], rf_MM w m1)
    refine rf_if_eq C 8 26 (by decide +kernel) (fun hc => ?_) (fun hc => ?_)
    · replace hg := (if_pos hc).symm.trans hg
      refine rf_seg C [(.iconst (-1), 1)] (pc' := 27) (S' := ([(0, .ref 206), (1, .int a1), (2, .int a2)], [.int ((-1))], rf_MM w m1)) (by decide +kernel) rfl trivial ?_
      obtain rfl := Option.some.inj hg
      exact rf_iret C hE (by decide +kernel)
    · replace hg := (if_neg hc).symm.trans hg
      refine rf_seg C [(.iload 1, 1), (.iload 2, 1)] (pc' := 23) (S' := ([(0, .ref 206), (1, .int a1), (2, .int a2)], [.int a2, .int a1], rf_MM w m1)) (by decide +kernel) rfl trivial ?_
      refine rf_icmp_ne C 5 28 (by decide +kernel) (fun hc => ?_) (fun hc => ?_)
      · replace hg := (if_neg hc).symm.trans hg
        refine rf_seg C [(.aload 0, 1)] (pc' := 29) (S' := ([(0, .ref 206), (1, .int a1), (2, .int a2)], [.ref 206], rf_MM w m1)) (by decide +kernel) rfl trivial ?_
        obtain ⟨m2, hc2, hg⟩ := rf_bv_some hg
        refine rf_callv C rf_fit0 j_X14_norths (ci := 14) (As := []) (rest := []) mw_X14_norths (c_X14_norths hc2) (by decide) rfl (by decide) lk_14_890 rfl rfl (Nat.le_of_ble_eq_true rfl) (by decide +kernel) ?_
        show rf_V 3 (rf_sh w) K 0 0 32 ([(0, .ref 206), (1, .int a1), (2, .int a2)], [], rf_MM w m2)
        obtain ⟨q3, hg⟩ := rf_g_some hg
        refine rf_seg C [(.aload 0, 1), (.invokeinterface 14 131, 3), (.iconst 30, 2), (.iload 1, 1), (.imul, 1), (.iload 2, 1), (.iadd, 1), (.iaload, 1), (.iconst (-1), 1)] (pc' := 44) (S' := ([(0, .ref 206), (1, .int a1), (2, .int a2)], [.int ((-1)), .int (m2.1 293 (Int32.toNatClampNeg ((30 * a1) + a2)))], rf_MM w m2)) (by decide +kernel) rfl (rf_in_of q3) ?_
        refine rf_icmp_ne C 8 52 (by decide +kernel) (fun hc => ?_) (fun hc => ?_)
        · replace hg := (if_neg hc).symm.trans hg
          obtain ⟨q4, hg⟩ := rf_g_some hg
          refine rf_seg C [(.aload 0, 1), (.invokeinterface 14 131, 3), (.iconst 30, 2), (.iload 1, 1), (.imul, 1), (.iload 2, 1), (.iadd, 1), (.iaload, 1)] (pc' := 63) (S' := ([(0, .ref 206), (1, .int a1), (2, .int a2)], [.int (m2.1 293 (Int32.toNatClampNeg ((30 * a1) + a2)))], rf_MM w m2)) (by decide +kernel) rfl (rf_in_of q4) ?_
          obtain rfl := Option.some.inj hg
          exact rf_iret C hE (by decide +kernel)
        · replace hg := (if_pos hc).symm.trans hg
          refine rf_seg C [(.iconst (-2), 2)] (pc' := 49) (S' := ([(0, .ref 206), (1, .int a1), (2, .int a2)], [.int ((-2))], rf_MM w m2)) (by decide +kernel) rfl trivial ?_
          refine rf_goto C 14 63 (by decide +kernel) ?_
          obtain rfl := Option.some.inj hg
          exact rf_iret C hE (by decide +kernel)
      · replace hg := (if_pos hc).symm.trans hg
        refine rf_seg C [(.iconst (-1), 1)] (pc' := 27) (S' := ([(0, .ref 206), (1, .int a1), (2, .int a2)], [.int ((-1))], rf_MM w m1)) (by decide +kernel) rfl trivial ?_
        obtain rfl := Option.some.inj hg
        exact rf_iret C hE (by decide +kernel)
-- X14_level
abbrev j_X14_level : rf_J := (14, yX14_level, cX14_level, 5, (some .int))
theorem mw_X14_level : rf_mv j_X14_level (rf_R 14) 4 := ⟨⟨rf_mem 92 (by decide +kernel), rf_mem 92 (by decide +kernel), rf_mem 0 (by decide +kernel), rf_mem 92 (by decide +kernel)⟩, by decide +kernel, by decide⟩
def g_X14_level (w : rf_w) (m : rf_m) (a1 : Int32) (a2 : Int32) (a3 : Int32) (a4 : Int32) : Option (Int32 × rf_m) := rf_b (g_X14_isMark w (rf_i m 206 0 0) a1) fun y0 m0 => (if y0 = 0 then rf_b (g_X14_refused w m0 1) fun y1 m1 => some (y1, m1) else rf_b (g_X14_isMark w m0 a2) fun y2 m2 => (if y2 = 0 then rf_b (g_X14_refused w m2 1) fun y3 m3 => some (y3, m3) else (if a1 = a2 then rf_b (g_X14_refused w m2 1) fun y13 m13 => some (y13, m13) else rf_b (g_X14_in w m2 a3 ((-1000000)) 1000000) fun y4 m4 => (if y4 = 0 then rf_b (g_X14_refused w m4 2) fun y5 m5 => some (y5, m5) else rf_b (g_X14_isHour w m4 a4) fun y6 m6 => (if y6 = 0 then rf_b (g_X14_refused w m6 2) fun y12 m12 => some (y12, m12) else (if (m6.1 206 136) = 60 then rf_b (g_X14_refused w m6 3) fun y11 m11 => some (y11, m11) else rf_g (rf_in (m6.1 206 136) 60) (rf_g (rf_in ((rf_i m6 298 (Int32.toNatClampNeg (m6.1 206 136)) a1).1 206 136) 60) (rf_g (rf_in ((rf_i (rf_i m6 298 (Int32.toNatClampNeg (m6.1 206 136)) a1) 299 (Int32.toNatClampNeg ((rf_i m6 298 (Int32.toNatClampNeg (m6.1 206 136)) a1).1 206 136)) a2).1 206 136) 60) (rf_b (g_X14_done w (rf_i (rf_i (rf_i (rf_i m6 298 (Int32.toNatClampNeg (m6.1 206 136)) a1) 299 (Int32.toNatClampNeg ((rf_i m6 298 (Int32.toNatClampNeg (m6.1 206 136)) a1).1 206 136)) a2) 300 (Int32.toNatClampNeg ((rf_i (rf_i m6 298 (Int32.toNatClampNeg (m6.1 206 136)) a1) 299 (Int32.toNatClampNeg ((rf_i m6 298 (Int32.toNatClampNeg (m6.1 206 136)) a1).1 206 136)) a2).1 206 136)) a3) 206 136 (((rf_i (rf_i (rf_i m6 298 (Int32.toNatClampNeg (m6.1 206 136)) a1) 299 (Int32.toNatClampNeg ((rf_i m6 298 (Int32.toNatClampNeg (m6.1 206 136)) a1).1 206 136)) a2) 300 (Int32.toNatClampNeg ((rf_i (rf_i m6 298 (Int32.toNatClampNeg (m6.1 206 136)) a1) 299 (Int32.toNatClampNeg ((rf_i m6 298 (Int32.toNatClampNeg (m6.1 206 136)) a1).1 206 136)) a2).1 206 136)) a3).1 206 136) + 1)) (((rf_i (rf_i (rf_i (rf_i m6 298 (Int32.toNatClampNeg (m6.1 206 136)) a1) 299 (Int32.toNatClampNeg ((rf_i m6 298 (Int32.toNatClampNeg (m6.1 206 136)) a1).1 206 136)) a2) 300 (Int32.toNatClampNeg ((rf_i (rf_i m6 298 (Int32.toNatClampNeg (m6.1 206 136)) a1) 299 (Int32.toNatClampNeg ((rf_i m6 298 (Int32.toNatClampNeg (m6.1 206 136)) a1).1 206 136)) a2).1 206 136)) a3) 206 136 (((rf_i (rf_i (rf_i m6 298 (Int32.toNatClampNeg (m6.1 206 136)) a1) 299 (Int32.toNatClampNeg ((rf_i m6 298 (Int32.toNatClampNeg (m6.1 206 136)) a1).1 206 136)) a2) 300 (Int32.toNatClampNeg ((rf_i (rf_i m6 298 (Int32.toNatClampNeg (m6.1 206 136)) a1) 299 (Int32.toNatClampNeg ((rf_i m6 298 (Int32.toNatClampNeg (m6.1 206 136)) a1).1 206 136)) a2).1 206 136)) a3).1 206 136) + 1)).1 206 136) - 1)) fun y10 m10 => some (y10, m10))))))))))
theorem c_X14_level {w : rf_w} {m : rf_m} {a1 : Int32} {a2 : Int32} {a3 : Int32} {a4 : Int32} {r : Int32 × rf_m} (hg : g_X14_level w m a1 a2 a3 a4 = some r) : rf_Con j_X14_level 2 (rf_sh w) [.ref 206, .int a1, .int a2, .int a3, .int a4] (rf_MM w m) (some (.int r.1)) (rf_MM w r.2) := by
  refine rf_con j_X14_level 2 ⟨by decide +kernel, rfl, Nat.le_of_ble_eq_true rfl⟩ (fun K C hE => ?_)
  unfold g_X14_level at hg
  show rf_V 5 (rf_sh w) K 0 0 0 ([(0, .ref 206), (1, .int a1), (2, .int a2), (3, .int a3), (4, .int a4)], [], rf_MM w m)
  refine rf_seg C [(.aload 0, 1), (.iconst 0, 1), (.multianewarray 14 0, 3), (.aload 0, 1), (.iload 1, 1)] (pc' := 7) (S' := ([(0, .ref 206), (1, .int a1), (2, .int a2), (3, .int a3), (4, .int a4)], [.int a1, .ref 206], rf_MM w (rf_i m 206 0 0))) (by decide +kernel) rfl trivial ?_
  obtain ⟨y0, m0, hc0, hg⟩ := rf_b_some hg
  refine rf_callv C rf_fit0 j_X14_isMark (ci := 14) (As := [.int a1]) (rest := []) mw_X14_isMark (c_X14_isMark hc0) (by decide) rfl (by decide) lk_14_360 rfl rfl (Nat.le_of_ble_eq_true rfl) (by decide +kernel) ?_
  show rf_V 5 (rf_sh w) K 0 0 10 ([(0, .ref 206), (1, .int a1), (2, .int a2), (3, .int a3), (4, .int a4)], [.int y0], rf_MM w m0)
  refine rf_if_eq C 16 26 (by decide +kernel) (fun hc => ?_) (fun hc => ?_)
  · replace hg := (if_pos hc).symm.trans hg
    refine rf_seg C [(.aload 0, 1), (.iconst 1, 1)] (pc' := 28) (S' := ([(0, .ref 206), (1, .int a1), (2, .int a2), (3, .int a3), (4, .int a4)], [.int 1, .ref 206], rf_MM w m0)) (by decide +kernel) rfl trivial ?_
    obtain ⟨y1, m1, hc1, hg⟩ := rf_b_some hg
    refine rf_callv C rf_fit0 j_X14_refused (ci := 14) (As := [.int 1]) (rest := []) mw_X14_refused (c_X14_refused hc1) (by decide) rfl (by decide) lk_14_353 rfl rfl (Nat.le_of_ble_eq_true rfl) (by decide +kernel) ?_
    show rf_V 5 (rf_sh w) K 0 0 31 ([(0, .ref 206), (1, .int a1), (2, .int a2), (3, .int a3), (4, .int a4)], [.int y1], rf_MM w m1)
    obtain rfl := Option.some.inj hg
    exact rf_iret C hE (by decide +kernel)
  · replace hg := (if_neg hc).symm.trans hg
    refine rf_seg C [(.aload 0, 1), (.iload 2, 1)] (pc' := 15) (S' := ([(0, .ref 206), (1, .int a1), (2, .int a2), (3, .int a3), (4, .int a4)], [.int a2, .ref 206], rf_MM w m0)) (by decide +kernel) rfl trivial ?_
    obtain ⟨y2, m2, hc2, hg⟩ := rf_b_some hg
    refine rf_callv C rf_fit0 j_X14_isMark (ci := 14) (As := [.int a2]) (rest := []) mw_X14_isMark (c_X14_isMark hc2) (by decide) rfl (by decide) lk_14_360 rfl rfl (Nat.le_of_ble_eq_true rfl) (by decide +kernel) ?_
    show rf_V 5 (rf_sh w) K 0 0 18 ([(0, .ref 206), (1, .int a1), (2, .int a2), (3, .int a3), (4, .int a4)], [.int y2], rf_MM w m2)
    refine rf_if_eq C 8 26 (by decide +kernel) (fun hc => ?_) (fun hc => ?_)
    · replace hg := (if_pos hc).symm.trans hg
      refine rf_seg C [(.aload 0, 1), (.iconst 1, 1)] (pc' := 28) (S' := ([(0, .ref 206), (1, .int a1), (2, .int a2), (3, .int a3), (4, .int a4)], [.int 1, .ref 206], rf_MM w m2)) (by decide +kernel) rfl trivial ?_
      obtain ⟨y3, m3, hc3, hg⟩ := rf_b_some hg
      refine rf_callv C rf_fit0 j_X14_refused (ci := 14) (As := [.int 1]) (rest := []) mw_X14_refused (c_X14_refused hc3) (by decide) rfl (by decide) lk_14_353 rfl rfl (Nat.le_of_ble_eq_true rfl) (by decide +kernel) ?_
      show rf_V 5 (rf_sh w) K 0 0 31 ([(0, .ref 206), (1, .int a1), (2, .int a2), (3, .int a3), (4, .int a4)], [.int y3], rf_MM w m3)
      obtain rfl := Option.some.inj hg
      exact rf_iret C hE (by decide +kernel)
    · replace hg := (if_neg hc).symm.trans hg
      refine rf_seg C [(.iload 1, 1), (.iload 2, 1)] (pc' := 23) (S' := ([(0, .ref 206), (1, .int a1), (2, .int a2), (3, .int a3), (4, .int a4)], [.int a2, .int a1], rf_MM w m2)) (by decide +kernel) rfl trivial ?_
      refine rf_icmp_ne C 9 32 (by decide +kernel) (fun hc => ?_) (fun hc => ?_)
      · replace hg := (if_neg hc).symm.trans hg
        refine rf_seg C [(.iload 3, 1), (.iconst (-1000000), 3), (.iconst 1000000, 3)] (pc' := 39) (S' := ([(0, .ref 206), (1, .int a1), (2, .int a2), (3, .int a3), (4, .int a4)], [.int 1000000, .int ((-1000000)), .int a3], rf_MM w m2)) (by decide +kernel) rfl trivial ?_
        obtain ⟨y4, m4, hc4, hg⟩ := rf_b_some hg
        refine rf_calls C rf_fit0 j_X14_in (As := [.int a3, .int ((-1000000)), .int 1000000]) (rest := []) mw_X14_in (c_X14_in hc4) (by decide) lk_14_345 rfl rfl (Nat.le_of_ble_eq_true rfl) (by decide +kernel) ?_
        show rf_V 5 (rf_sh w) K 0 0 42 ([(0, .ref 206), (1, .int a1), (2, .int a2), (3, .int a3), (4, .int a4)], [.int y4], rf_MM w m4)
        refine rf_if_eq C 11 53 (by decide +kernel) (fun hc => ?_) (fun hc => ?_)
        · replace hg := (if_pos hc).symm.trans hg
          refine rf_seg C [(.aload 0, 1), (.iconst 2, 1)] (pc' := 55) (S' := ([(0, .ref 206), (1, .int a1), (2, .int a2), (3, .int a3), (4, .int a4)], [.int 2, .ref 206], rf_MM w m4)) (by decide +kernel) rfl trivial ?_
          obtain ⟨y5, m5, hc5, hg⟩ := rf_b_some hg
          refine rf_callv C rf_fit0 j_X14_refused (ci := 14) (As := [.int 2]) (rest := []) mw_X14_refused (c_X14_refused hc5) (by decide) rfl (by decide) lk_14_353 rfl rfl (Nat.le_of_ble_eq_true rfl) (by decide +kernel) ?_
          show rf_V 5 (rf_sh w) K 0 0 58 ([(0, .ref 206), (1, .int a1), (2, .int a2), (3, .int a3), (4, .int a4)], [.int y5], rf_MM w m5)
          obtain rfl := Option.some.inj hg
          exact rf_iret C hE (by decide +kernel)
        · replace hg := (if_neg hc).symm.trans hg
          refine rf_seg C [(.iload 4, 2)] (pc' := 47) (S' := ([(0, .ref 206), (1, .int a1), (2, .int a2), (3, .int a3), (4, .int a4)], [.int a4], rf_MM w m4)) (by decide +kernel) rfl trivial ?_
          obtain ⟨y6, m6, hc6, hg⟩ := rf_b_some hg
          refine rf_calls C rf_fit0 j_X14_isHour (As := [.int a4]) (rest := []) mw_X14_isHour (c_X14_isHour hc6) (by decide) lk_14_369 rfl rfl (Nat.le_of_ble_eq_true rfl) (by decide +kernel) ?_
          show rf_V 5 (rf_sh w) K 0 0 50 ([(0, .ref 206), (1, .int a1), (2, .int a2), (3, .int a3), (4, .int a4)], [.int y6], rf_MM w m6)
          refine rf_if_ne C 9 59 (by decide +kernel) (fun hc => ?_) (fun hc => ?_)
          · replace hg := (if_neg hc).symm.trans hg
            refine rf_seg C [(.aload 0, 1), (.invokeinterface 14 136, 3), (.iconst 60, 2)] (pc' := 65) (S' := ([(0, .ref 206), (1, .int a1), (2, .int a2), (3, .int a3), (4, .int a4)], [.int 60, .int (m6.1 206 136)], rf_MM w m6)) (by decide +kernel) rfl trivial ?_
            refine rf_icmp_ne C 9 74 (by decide +kernel) (fun hc => ?_) (fun hc => ?_)
            · replace hg := (if_neg hc).symm.trans hg
              obtain ⟨q7, hg⟩ := rf_g_some hg
              obtain ⟨q8, hg⟩ := rf_g_some hg
              obtain ⟨q9, hg⟩ := rf_g_some hg
              refine rf_seg C [(.aload 0, 1), (.invokeinterface 14 141, 3), (.aload 0, 1), (.invokeinterface 14 136, 3), (.iload 1, 1), (.iastore, 1), (.aload 0, 1), (.invokeinterface 14 142, 3), (.aload 0, 1), (.invokeinterface 14 136, 3), (.iload 2, 1), (.iastore, 1), (.aload 0, 1), (.invokeinterface 14 143, 3), (.aload 0, 1), (.invokeinterface 14 136, 3), (.iload 3, 1), (.iastore, 1), (.aload 0, 1), (.dup, 1), (.invokeinterface 14 136, 3), (.iconst 1, 1), (.iadd, 1), (.multianewarray 14 136, 3), (.aload 0, 1), (.aload 0, 1), (.invokeinterface 14 136, 3), (.iconst 1, 1), (.isub, 1)] (pc' := 121) (S' := ([(0, .ref 206), (1, .int a1), (2, .int a2), (3, .int a3), (4, .int a4)], [.int (((rf_i (rf_i (rf_i (rf_i m6 298 (Int32.toNatClampNeg (m6.1 206 136)) a1) 299 (Int32.toNatClampNeg ((rf_i m6 298 (Int32.toNatClampNeg (m6.1 206 136)) a1).1 206 136)) a2) 300 (Int32.toNatClampNeg ((rf_i (rf_i m6 298 (Int32.toNatClampNeg (m6.1 206 136)) a1) 299 (Int32.toNatClampNeg ((rf_i m6 298 (Int32.toNatClampNeg (m6.1 206 136)) a1).1 206 136)) a2).1 206 136)) a3) 206 136 (((rf_i (rf_i (rf_i m6 298 (Int32.toNatClampNeg (m6.1 206 136)) a1) 299 (Int32.toNatClampNeg ((rf_i m6 298 (Int32.toNatClampNeg (m6.1 206 136)) a1).1 206 136)) a2) 300 (Int32.toNatClampNeg ((rf_i (rf_i m6 298 (Int32.toNatClampNeg (m6.1 206 136)) a1) 299 (Int32.toNatClampNeg ((rf_i m6 298 (Int32.toNatClampNeg (m6.1 206 136)) a1).1 206 136)) a2).1 206 136)) a3).1 206 136) + 1)).1 206 136) - 1), .ref 206], rf_MM w (rf_i (rf_i (rf_i (rf_i m6 298 (Int32.toNatClampNeg (m6.1 206 136)) a1) 299 (Int32.toNatClampNeg ((rf_i m6 298 (Int32.toNatClampNeg (m6.1 206 136)) a1).1 206 136)) a2) 300 (Int32.toNatClampNeg ((rf_i (rf_i m6 298 (Int32.toNatClampNeg (m6.1 206 136)) a1) 299 (Int32.toNatClampNeg ((rf_i m6 298 (Int32.toNatClampNeg (m6.1 206 136)) a1).1 206 136)) a2).1 206 136)) a3) 206 136 (((rf_i (rf_i (rf_i m6 298 (Int32.toNatClampNeg (m6.1 206 136)) a1) 299 (Int32.toNatClampNeg ((rf_i m6 298 (Int32.toNatClampNeg (m6.1 206 136)) a1).1 206 136)) a2) 300 (Int32.toNatClampNeg ((rf_i (rf_i m6 298 (Int32.toNatClampNeg (m6.1 206 136)) a1) 299 (Int32.toNatClampNeg ((rf_i m6 298 (Int32.toNatClampNeg (m6.1 206 136)) a1).1 206 136)) a2).1 206 136)) a3).1 206 136) + 1)))) (by decide +kernel) rfl (by exact ⟨(rf_in_of q7), (rf_in_of q8), (rf_in_of q9)⟩) ?_
              obtain ⟨y10, m10, hc10, hg⟩ := rf_b_some hg
              refine rf_callv C rf_fit0 j_X14_done (ci := 14) (As := [.int (((rf_i (rf_i (rf_i (rf_i m6 298 (Int32.toNatClampNeg (m6.1 206 136)) a1) 299 (Int32.toNatClampNeg ((rf_i m6 298 (Int32.toNatClampNeg (m6.1 206 136)) a1).1 206 136)) a2) 300 (Int32.toNatClampNeg ((rf_i (rf_i m6 298 (Int32.toNatClampNeg (m6.1 206 136)) a1) 299 (Int32.toNatClampNeg ((rf_i m6 298 (Int32.toNatClampNeg (m6.1 206 136)) a1).1 206 136)) a2).1 206 136)) a3) 206 136 (((rf_i (rf_i (rf_i m6 298 (Int32.toNatClampNeg (m6.1 206 136)) a1) 299 (Int32.toNatClampNeg ((rf_i m6 298 (Int32.toNatClampNeg (m6.1 206 136)) a1).1 206 136)) a2) 300 (Int32.toNatClampNeg ((rf_i (rf_i m6 298 (Int32.toNatClampNeg (m6.1 206 136)) a1) 299 (Int32.toNatClampNeg ((rf_i m6 298 (Int32.toNatClampNeg (m6.1 206 136)) a1).1 206 136)) a2).1 206 136)) a3).1 206 136) + 1)).1 206 136) - 1)]) (rest := []) mw_X14_done (c_X14_done hc10) (by decide) rfl (by decide) lk_14_357 rfl rfl (Nat.le_of_ble_eq_true rfl) (by decide +kernel) ?_
              show rf_V 5 (rf_sh w) K 0 0 124 ([(0, .ref 206), (1, .int a1), (2, .int a2), (3, .int a3), (4, .int a4)], [.int y10], rf_MM w m10)
              obtain rfl := Option.some.inj hg
              exact rf_iret C hE (by decide +kernel)
            · replace hg := (if_pos hc).symm.trans hg
              refine rf_seg C [(.aload 0, 1), (.iconst 3, 1)] (pc' := 70) (S' := ([(0, .ref 206), (1, .int a1), (2, .int a2), (3, .int a3), (4, .int a4)], [.int 3, .ref 206], rf_MM w m6)) (by decide +kernel) rfl trivial ?_
              obtain ⟨y11, m11, hc11, hg⟩ := rf_b_some hg
              refine rf_callv C rf_fit0 j_X14_refused (ci := 14) (As := [.int 3]) (rest := []) mw_X14_refused (c_X14_refused hc11) (by decide) rfl (by decide) lk_14_353 rfl rfl (Nat.le_of_ble_eq_true rfl) (by decide +kernel) ?_
              show rf_V 5 (rf_sh w) K 0 0 73 ([(0, .ref 206), (1, .int a1), (2, .int a2), (3, .int a3), (4, .int a4)], [.int y11], rf_MM w m11)
              obtain rfl := Option.some.inj hg
              exact rf_iret C hE (by decide +kernel)
          · replace hg := (if_pos hc).symm.trans hg
            refine rf_seg C [(.aload 0, 1), (.iconst 2, 1)] (pc' := 55) (S' := ([(0, .ref 206), (1, .int a1), (2, .int a2), (3, .int a3), (4, .int a4)], [.int 2, .ref 206], rf_MM w m6)) (by decide +kernel) rfl trivial ?_
            obtain ⟨y12, m12, hc12, hg⟩ := rf_b_some hg
            refine rf_callv C rf_fit0 j_X14_refused (ci := 14) (As := [.int 2]) (rest := []) mw_X14_refused (c_X14_refused hc12) (by decide) rfl (by decide) lk_14_353 rfl rfl (Nat.le_of_ble_eq_true rfl) (by decide +kernel) ?_
            show rf_V 5 (rf_sh w) K 0 0 58 ([(0, .ref 206), (1, .int a1), (2, .int a2), (3, .int a3), (4, .int a4)], [.int y12], rf_MM w m12)
            obtain rfl := Option.some.inj hg
            exact rf_iret C hE (by decide +kernel)
      · replace hg := (if_pos hc).symm.trans hg
        refine rf_seg C [(.aload 0, 1), (.iconst 1, 1)] (pc' := 28) (S' := ([(0, .ref 206), (1, .int a1), (2, .int a2), (3, .int a3), (4, .int a4)], [.int 1, .ref 206], rf_MM w m2)) (by decide +kernel) rfl trivial ?_
        obtain ⟨y13, m13, hc13, hg⟩ := rf_b_some hg
        refine rf_callv C rf_fit0 j_X14_refused (ci := 14) (As := [.int 1]) (rest := []) mw_X14_refused (c_X14_refused hc13) (by decide) rfl (by decide) lk_14_353 rfl rfl (Nat.le_of_ble_eq_true rfl) (by decide +kernel) ?_
        show rf_V 5 (rf_sh w) K 0 0 31 ([(0, .ref 206), (1, .int a1), (2, .int a2), (3, .int a3), (4, .int a4)], [.int y13], rf_MM w m13)
        obtain rfl := Option.some.inj hg
        exact rf_iret C hE (by decide +kernel)
-- X14_meanUp
abbrev j_X14_meanUp : rf_J := (14, yX14_meanUp, cX14_meanUp, 6, (some .int))
theorem mw_X14_meanUp : rf_mv j_X14_meanUp (rf_R 14) 2 := ⟨⟨rf_mem 93 (by decide +kernel), rf_mem 93 (by decide +kernel), rf_mem 0 (by decide +kernel), rf_mem 93 (by decide +kernel)⟩, by decide +kernel, by decide⟩
def g_X14_meanUp_55 (w : rf_w) (rec8 : Int32 → Int32 → Int32 → Int32 → Int32 → rf_m → Option (Int32 × rf_m)) (a1 : Int32) (a2 : Int32) (a3 : Int32) (a4 : Int32) (a5 : Int32) (m : rf_m) : Option (Int32 × rf_m) := rec8 a1 a2 a3 a4 (a5 + 1) m
def g_X14_meanUp_8_b (w : rf_w) (rec8 : Int32 → Int32 → Int32 → Int32 → Int32 → rf_m → Option (Int32 × rf_m)) (a1 : Int32) (a2 : Int32) (a3 : Int32) (a4 : Int32) (a5 : Int32) (m : rf_m) : Option (Int32 × rf_m) := (if (m.1 206 136) ≤ a5 then (if a4 = 0 then some ((-2147483648), m) else rf_b (g_X14_down w m a3 a4) fun y0 m0 => some (y0, m0)) else rf_g (rf_in a5 60) ((if (m.1 298 (Int32.toNatClampNeg a5)) = a1 then rf_g (rf_in a5 60) ((if (m.1 299 (Int32.toNatClampNeg a5)) = a2 then rf_g (rf_in a5 60) (rf_vi (a3 + (m.1 300 (Int32.toNatClampNeg a5))) fun x4 => g_X14_meanUp_55 w rec8 a1 a2 x4 (a4 + 1) a5 m) else g_X14_meanUp_55 w rec8 a1 a2 a3 a4 a5 m)) else g_X14_meanUp_55 w rec8 a1 a2 a3 a4 a5 m)))
def g_X14_meanUp_8 (w : rf_w) : Nat → Int32 → Int32 → Int32 → Int32 → Int32 → rf_m → Option (Int32 × rf_m)
  | 0, _, _, _, _, _, _ => none
  | n + 1, a1, a2, a3, a4, a5, m => g_X14_meanUp_8_b w (g_X14_meanUp_8 w n) a1 a2 a3 a4 a5 m
def g_X14_meanUp (w : rf_w) (m : rf_m) (a1 : Int32) (a2 : Int32) : Option (Int32 × rf_m) := g_X14_meanUp_8 w rf_fuel a1 a2 0 0 0 m
theorem s_X14_meanUp_55 {w : rf_w} {K : rf_K} {r : Int32 × rf_m} (C : rf_Ctx 14 cX14_meanUp 6 2 (rf_sh w) K) (hE : rf_End (some .int) K (rf_sh w) 0 0 (some (.int r.1)) (rf_MM w r.2)) {rec8 : Int32 → Int32 → Int32 → Int32 → Int32 → rf_m → Option (Int32 × rf_m)} (hr8 : ∀ (a1 : Int32) (a2 : Int32) (a3 : Int32) (a4 : Int32) (a5 : Int32) (m : rf_m), rec8 a1 a2 a3 a4 a5 m = some r → rf_V 6 (rf_sh w) K 0 0 8 ([(0, .ref 206), (1, .int a1), (2, .int a2), (3, .int a3), (4, .int a4), (5, .int a5)], [], rf_MM w m)) (a1 : Int32) (a2 : Int32) (a3 : Int32) (a4 : Int32) (a5 : Int32) (m : rf_m) (hg : g_X14_meanUp_55 w rec8 a1 a2 a3 a4 a5 m = some r) : rf_V 6 (rf_sh w) K 0 0 55 ([(0, .ref 206), (1, .int a1), (2, .int a2), (3, .int a3), (4, .int a4), (5, .int a5)], [], rf_MM w m) := by
  unfold g_X14_meanUp_55 at hg
  refine rf_seg C [(.iinc 5 1, 3)] (pc' := 58) (S' := ([(5, .int (a5 + 1)), (0, .ref 206), (1, .int a1), (2, .int a2), (3, .int a3), (4, .int a4)], [], rf_MM w m)) (by decide +kernel) rfl trivial ?_
  refine rf_goto C (-50) 8 (by decide +kernel) ?_
  refine rf_few [1, 2, 3, 4, 5, 0] rfl ?_
  exact hr8 a1 a2 a3 a4 (a5 + 1) m hg
theorem s_X14_meanUp_8_b {w : rf_w} {K : rf_K} {r : Int32 × rf_m} (C : rf_Ctx 14 cX14_meanUp 6 2 (rf_sh w) K) (hE : rf_End (some .int) K (rf_sh w) 0 0 (some (.int r.1)) (rf_MM w r.2)) {rec8 : Int32 → Int32 → Int32 → Int32 → Int32 → rf_m → Option (Int32 × rf_m)} (hr8 : ∀ (a1 : Int32) (a2 : Int32) (a3 : Int32) (a4 : Int32) (a5 : Int32) (m : rf_m), rec8 a1 a2 a3 a4 a5 m = some r → rf_V 6 (rf_sh w) K 0 0 8 ([(0, .ref 206), (1, .int a1), (2, .int a2), (3, .int a3), (4, .int a4), (5, .int a5)], [], rf_MM w m)) (a1 : Int32) (a2 : Int32) (a3 : Int32) (a4 : Int32) (a5 : Int32) (m : rf_m) (hg : g_X14_meanUp_8_b w rec8 a1 a2 a3 a4 a5 m = some r) : rf_V 6 (rf_sh w) K 0 0 8 ([(0, .ref 206), (1, .int a1), (2, .int a2), (3, .int a3), (4, .int a4), (5, .int a5)], [], rf_MM w m) := by
  unfold g_X14_meanUp_8_b at hg
  refine rf_seg C [(.iload 5, 2), (.aload 0, 1), (.invokeinterface 14 136, 3)] (pc' := 14) (S' := ([(0, .ref 206), (1, .int a1), (2, .int a2), (3, .int a3), (4, .int a4), (5, .int a5)], [.int (m.1 206 136), .int a5], rf_MM w m)) (by decide +kernel) rfl trivial ?_
  refine rf_icmp_ge C 47 61 (by decide +kernel) (fun hc => ?_) (fun hc => ?_)
  · replace hg := (if_pos hc).symm.trans hg
    refine rf_seg C [(.iload 4, 2)] (pc' := 63) (S' := ([(0, .ref 206), (1, .int a1), (2, .int a2), (3, .int a3), (4, .int a4), (5, .int a5)], [.int a4], rf_MM w m)) (by decide +kernel) rfl trivial ?_
    refine rf_if_ne C 9 72 (by decide +kernel) (fun hc => ?_) (fun hc => ?_)
    · replace hg := (if_neg hc).symm.trans hg
      refine rf_seg C [(.iload 3, 1), (.iload 4, 2)] (pc' := 75) (S' := ([(0, .ref 206), (1, .int a1), (2, .int a2), (3, .int a3), (4, .int a4), (5, .int a5)], [.int a4, .int a3], rf_MM w m)) (by decide +kernel) rfl trivial ?_
      obtain ⟨y0, m0, hc0, hg⟩ := rf_b_some hg
      refine rf_calls C rf_fit0 j_X14_down (As := [.int a3, .int a4]) (rest := []) mw_X14_down (c_X14_down hc0) (by decide) lk_14_390 rfl rfl (Nat.le_of_ble_eq_true rfl) (by decide +kernel) ?_
      show rf_V 6 (rf_sh w) K 0 0 78 ([(0, .ref 206), (1, .int a1), (2, .int a2), (3, .int a3), (4, .int a4), (5, .int a5)], [.int y0], rf_MM w m0)
      obtain rfl := Option.some.inj hg
      exact rf_iret C hE (by decide +kernel)
    · replace hg := (if_pos hc).symm.trans hg
      refine rf_seg C [(.iconst (-2147483648), 3)] (pc' := 69) (S' := ([(0, .ref 206), (1, .int a1), (2, .int a2), (3, .int a3), (4, .int a4), (5, .int a5)], [.int ((-2147483648))], rf_MM w m)) (by decide +kernel) rfl trivial ?_
      refine rf_goto C 9 78 (by decide +kernel) ?_
      obtain rfl := Option.some.inj hg
      exact rf_iret C hE (by decide +kernel)
  · replace hg := (if_neg hc).symm.trans hg
    obtain ⟨q1, hg⟩ := rf_g_some hg
    refine rf_seg C [(.aload 0, 1), (.invokeinterface 14 141, 3), (.iload 5, 2), (.iaload, 1), (.iload 1, 1)] (pc' := 25) (S' := ([(0, .ref 206), (1, .int a1), (2, .int a2), (3, .int a3), (4, .int a4), (5, .int a5)], [.int a1, .int (m.1 298 (Int32.toNatClampNeg a5))], rf_MM w m)) (by decide +kernel) rfl (rf_in_of q1) ?_
    refine rf_icmp_ne C 30 55 (by decide +kernel) (fun hc => ?_) (fun hc => ?_)
    · replace hg := (if_neg hc).symm.trans hg
      refine rf_few [0, 1, 2, 3, 4, 5] rfl ?_
      exact s_X14_meanUp_55 C hE hr8 a1 a2 a3 a4 a5 m hg
    · replace hg := (if_pos hc).symm.trans hg
      obtain ⟨q2, hg⟩ := rf_g_some hg
      refine rf_seg C [(.aload 0, 1), (.invokeinterface 14 142, 3), (.iload 5, 2), (.iaload, 1), (.iload 2, 1)] (pc' := 36) (S' := ([(0, .ref 206), (1, .int a1), (2, .int a2), (3, .int a3), (4, .int a4), (5, .int a5)], [.int a2, .int (m.1 299 (Int32.toNatClampNeg a5))], rf_MM w m)) (by decide +kernel) rfl (rf_in_of q2) ?_
      refine rf_icmp_eq C 6 42 (by decide +kernel) (fun hc => ?_) (fun hc => ?_)
      · replace hg := (if_pos hc).symm.trans hg
        obtain ⟨q3, hg⟩ := rf_g_some hg
        refine rf_seg C [(.iload 3, 1), (.aload 0, 1), (.invokeinterface 14 143, 3), (.iload 5, 2), (.iaload, 1), (.iadd, 1)] (pc' := 51) (S' := ([(0, .ref 206), (1, .int a1), (2, .int a2), (3, .int a3), (4, .int a4), (5, .int a5)], [.int (a3 + (m.1 300 (Int32.toNatClampNeg a5)))], rf_MM w m)) (by decide +kernel) rfl (rf_in_of q3) ?_
        obtain ⟨x4, hx4, hg⟩ := rf_vi_some hg
        refine rf_vi_top hx4 ?_
        refine rf_seg C [(.istore 3, 1), (.iinc 4 1, 3)] (pc' := 55) (S' := ([(4, .int (a4 + 1)), (3, .int x4), (0, .ref 206), (1, .int a1), (2, .int a2), (5, .int a5)], [], rf_MM w m)) (by decide +kernel) rfl trivial ?_
        refine rf_few [2, 3, 4, 1, 0, 5] rfl ?_
        exact s_X14_meanUp_55 C hE hr8 a1 a2 x4 (a4 + 1) a5 m hg
      · replace hg := (if_neg hc).symm.trans hg
        refine rf_goto C 16 55 (by decide +kernel) ?_
        refine rf_few [0, 1, 2, 3, 4, 5] rfl ?_
        exact s_X14_meanUp_55 C hE hr8 a1 a2 a3 a4 a5 m hg
theorem s_X14_meanUp_8 {w : rf_w} {K : rf_K} {r : Int32 × rf_m} (C : rf_Ctx 14 cX14_meanUp 6 2 (rf_sh w) K) (hE : rf_End (some .int) K (rf_sh w) 0 0 (some (.int r.1)) (rf_MM w r.2)) (n : Nat) : ∀ (a1 : Int32) (a2 : Int32) (a3 : Int32) (a4 : Int32) (a5 : Int32) (m : rf_m), g_X14_meanUp_8 w n a1 a2 a3 a4 a5 m = some r → rf_V 6 (rf_sh w) K 0 0 8 ([(0, .ref 206), (1, .int a1), (2, .int a2), (3, .int a3), (4, .int a4), (5, .int a5)], [], rf_MM w m) := by
  induction n with
  | zero => intro a1 a2 a3 a4 a5 m hg; cases hg
  | succ n ih => intro a1 a2 a3 a4 a5 m hg; exact s_X14_meanUp_8_b C hE ih a1 a2 a3 a4 a5 m hg
theorem c_X14_meanUp {w : rf_w} {m : rf_m} {a1 : Int32} {a2 : Int32} {r : Int32 × rf_m} (hg : g_X14_meanUp w m a1 a2 = some r) : rf_Con j_X14_meanUp 2 (rf_sh w) [.ref 206, .int a1, .int a2] (rf_MM w m) (some (.int r.1)) (rf_MM w r.2) := by
  refine rf_con j_X14_meanUp 2 ⟨by decide +kernel, rfl, Nat.le_of_ble_eq_true rfl⟩ (fun K C hE => ?_)
  unfold g_X14_meanUp at hg
  show rf_V 6 (rf_sh w) K 0 0 0 ([(0, .ref 206), (1, .int a1), (2, .int a2)], [], rf_MM w m)
  refine rf_seg C [(.iconst 0, 1), (.istore 3, 1), (.iconst 0, 1), (.istore 4, 2), (.iconst 0, 1), (.istore 5, 2)] (pc' := 8) (S' := ([(5, .int 0), (4, .int 0), (3, .int 0), (0, .ref 206), (1, .int a1), (2, .int a2)], [], rf_MM w m)) (by decide +kernel) rfl trivial ?_
  refine rf_few [3, 4, 5, 2, 1, 0] rfl ?_
  exact s_X14_meanUp_8 C hE rf_fuel a1 a2 0 0 0 m hg
-- X14_isLevelled
abbrev j_X14_isLevelled : rf_J := (14, yX14_isLevelled, cX14_isLevelled, 7, (some .boolean))
theorem mw_X14_isLevelled : rf_mv j_X14_isLevelled (rf_R 14) 2 := ⟨⟨rf_mem 93 (by decide +kernel), rf_mem 93 (by decide +kernel), rf_mem 0 (by decide +kernel), rf_mem 93 (by decide +kernel)⟩, by decide +kernel, by decide⟩
def g_X14_isLevelled_111 (w : rf_w) (a5 : Int32) (a6 : Int32) (s1 : Int32) (m : rf_m) : Option (Int32 × rf_m) := (if a5 = 0 then rf_b (g_abs w (rf_i m 206 139 s1) ((rf_i m 206 139 s1).1 206 139)) fun y0 m0 => some (1, rf_i m0 206 140 (((y0 + 99) / 100) + 10)) else (if a6 = 0 then rf_b (g_abs w (rf_i m 206 139 s1) ((rf_i m 206 139 s1).1 206 139)) fun y1 m1 => some (1, rf_i m1 206 140 (((y1 + 99) / 100) + 10)) else some (1, rf_i (rf_i m 206 139 s1) 206 140 0)))
def g_X14_isLevelled_99 (w : rf_w) (a3 : Int32) (a4 : Int32) (a5 : Int32) (a6 : Int32) (m : rf_m) : Option (Int32 × rf_m) := (if a5 = 0 then g_X14_isLevelled_111 w a5 a6 (-a4) m else g_X14_isLevelled_111 w a5 a6 a3 m)
def g_X14_isLevelled_79 (w : rf_w) (a3 : Int32) (a4 : Int32) (a5 : Int32) (a6 : Int32) (m : rf_m) : Option (Int32 × rf_m) := (if a5 = 0 then g_X14_isLevelled_99 w a3 a4 a5 a6 m else (if a6 = 0 then g_X14_isLevelled_99 w a3 a4 a5 a6 m else g_X14_isLevelled_111 w a5 a6 ((a3 - a4) / 2) m))
def g_X14_isLevelled_65 (w : rf_w) (a3 : Int32) (a4 : Int32) (a5 : Int32) (s0 : Int32) (m : rf_m) : Option (Int32 × rf_m) := (if a5 = 0 then (if s0 = 0 then some (0, m) else g_X14_isLevelled_79 w a3 a4 a5 s0 m) else g_X14_isLevelled_79 w a3 a4 a5 s0 m)
def g_X14_isLevelled_50 (w : rf_w) (a3 : Int32) (a4 : Int32) (s0 : Int32) (m : rf_m) : Option (Int32 × rf_m) := (if a4 = ((-2147483648)) then g_X14_isLevelled_65 w a3 a4 s0 0 m else g_X14_isLevelled_65 w a3 a4 s0 1 m)
def g_X14_isLevelled (w : rf_w) (m : rf_m) (a1 : Int32) (a2 : Int32) : Option (Int32 × rf_m) := rf_b (g_X14_isMark w m a1) fun y0 m0 => (if y0 = 0 then some (0, m0) else rf_b (g_X14_isMark w m0 a2) fun y1 m1 => (if y1 = 0 then some (0, m1) else (if a1 = a2 then some (0, m1) else rf_b (g_X14_meanUp w m1 a1 a2) fun y2 m2 => rf_b (g_X14_meanUp w m2 a2 a1) fun y3 m3 => (if y2 = ((-2147483648)) then g_X14_isLevelled_50 w y2 y3 0 m3 else g_X14_isLevelled_50 w y2 y3 1 m3))))
theorem s_X14_isLevelled_111 {w : rf_w} {K : rf_K} {r : Int32 × rf_m} (C : rf_Ctx 14 cX14_isLevelled 7 3 (rf_sh w) K) (hE : rf_End (some .boolean) K (rf_sh w) 0 0 (some (.int r.1)) (rf_MM w r.2)) (a5 : Int32) (a6 : Int32) (s1 : Int32) (m : rf_m) (hg : g_X14_isLevelled_111 w a5 a6 s1 m = some r) : rf_V 7 (rf_sh w) K 0 0 111 ([(0, .ref 206), (5, .int a5), (6, .int a6)], [.int s1, .ref 206], rf_MM w m) := by
  unfold g_X14_isLevelled_111 at hg
  refine rf_seg C [(.multianewarray 14 139, 3), (.aload 0, 1), (.iload 5, 2)] (pc' := 117) (S' := ([(0, .ref 206), (5, .int a5), (6, .int a6)], [.int a5, .ref 206], rf_MM w (rf_i m 206 139 s1))) (by decide +kernel) rfl trivial ?_
  refine rf_if_eq C 12 129 (by decide +kernel) (fun hc => ?_) (fun hc => ?_)
  · replace hg := (if_pos hc).symm.trans hg
    refine rf_seg C [(.aload 0, 1), (.invokeinterface 14 139, 3)] (pc' := 133) (S' := ([(0, .ref 206), (5, .int a5), (6, .int a6)], [.int ((rf_i m 206 139 s1).1 206 139), .ref 206], rf_MM w (rf_i m 206 139 s1))) (by decide +kernel) rfl trivial ?_
    obtain ⟨y0, m0, hc0, hg⟩ := rf_b_some hg
    refine rf_calls C rf_fit0 j_abs (As := [.int ((rf_i m 206 139 s1).1 206 139)]) (rest := [.ref 206]) mw_abs (c_abs hc0) (by decide) lk_14_381 rfl rfl (Nat.le_of_ble_eq_true rfl) (by decide +kernel) ?_
    show rf_V 7 (rf_sh w) K 0 0 136 ([(0, .ref 206), (5, .int a5), (6, .int a6)], [.int y0, .ref 206], rf_MM w m0)
    refine rf_seg C [(.iconst 99, 2), (.iadd, 1), (.iconst 100, 2), (.idiv, 1), (.iconst 10, 2), (.iadd, 1), (.multianewarray 14 140, 3), (.iconst 1, 1)] (pc' := 149) (S' := ([(0, .ref 206), (5, .int a5), (6, .int a6)], [.int 1], rf_MM w (rf_i m0 206 140 (((y0 + 99) / 100) + 10)))) (by decide +kernel) rfl (rf_nz_of (by decide)) ?_
    obtain rfl := Option.some.inj hg
    exact rf_zret C hE (by decide) (by decide +kernel)
  · replace hg := (if_neg hc).symm.trans hg
    refine rf_seg C [(.iload 6, 2)] (pc' := 122) (S' := ([(0, .ref 206), (5, .int a5), (6, .int a6)], [.int a6, .ref 206], rf_MM w (rf_i m 206 139 s1))) (by decide +kernel) rfl trivial ?_
    refine rf_if_eq C 7 129 (by decide +kernel) (fun hc => ?_) (fun hc => ?_)
    · replace hg := (if_pos hc).symm.trans hg
      refine rf_seg C [(.aload 0, 1), (.invokeinterface 14 139, 3)] (pc' := 133) (S' := ([(0, .ref 206), (5, .int a5), (6, .int a6)], [.int ((rf_i m 206 139 s1).1 206 139), .ref 206], rf_MM w (rf_i m 206 139 s1))) (by decide +kernel) rfl trivial ?_
      obtain ⟨y1, m1, hc1, hg⟩ := rf_b_some hg
      refine rf_calls C rf_fit0 j_abs (As := [.int ((rf_i m 206 139 s1).1 206 139)]) (rest := [.ref 206]) mw_abs (c_abs hc1) (by decide) lk_14_381 rfl rfl (Nat.le_of_ble_eq_true rfl) (by decide +kernel) ?_
      show rf_V 7 (rf_sh w) K 0 0 136 ([(0, .ref 206), (5, .int a5), (6, .int a6)], [.int y1, .ref 206], rf_MM w m1)
      refine rf_seg C [(.iconst 99, 2), (.iadd, 1), (.iconst 100, 2), (.idiv, 1), (.iconst 10, 2), (.iadd, 1), (.multianewarray 14 140, 3), (.iconst 1, 1)] (pc' := 149) (S' := ([(0, .ref 206), (5, .int a5), (6, .int a6)], [.int 1], rf_MM w (rf_i m1 206 140 (((y1 + 99) / 100) + 10)))) (by decide +kernel) rfl (rf_nz_of (by decide)) ?_
      obtain rfl := Option.some.inj hg
      exact rf_zret C hE (by decide) (by decide +kernel)
    · replace hg := (if_neg hc).symm.trans hg
      refine rf_seg C [(.iconst 0, 1)] (pc' := 126) (S' := ([(0, .ref 206), (5, .int a5), (6, .int a6)], [.int 0, .ref 206], rf_MM w (rf_i m 206 139 s1))) (by decide +kernel) rfl trivial ?_
      refine rf_goto C 19 145 (by decide +kernel) ?_
      refine rf_seg C [(.multianewarray 14 140, 3), (.iconst 1, 1)] (pc' := 149) (S' := ([(0, .ref 206), (5, .int a5), (6, .int a6)], [.int 1], rf_MM w (rf_i (rf_i m 206 139 s1) 206 140 0))) (by decide +kernel) rfl trivial ?_
      obtain rfl := Option.some.inj hg
      exact rf_zret C hE (by decide) (by decide +kernel)
theorem s_X14_isLevelled_99 {w : rf_w} {K : rf_K} {r : Int32 × rf_m} (C : rf_Ctx 14 cX14_isLevelled 7 3 (rf_sh w) K) (hE : rf_End (some .boolean) K (rf_sh w) 0 0 (some (.int r.1)) (rf_MM w r.2)) (a3 : Int32) (a4 : Int32) (a5 : Int32) (a6 : Int32) (m : rf_m) (hg : g_X14_isLevelled_99 w a3 a4 a5 a6 m = some r) : rf_V 7 (rf_sh w) K 0 0 99 ([(0, .ref 206), (3, .int a3), (4, .int a4), (5, .int a5), (6, .int a6)], [.ref 206], rf_MM w m) := by
  unfold g_X14_isLevelled_99 at hg
  refine rf_seg C [(.iload 5, 2)] (pc' := 101) (S' := ([(0, .ref 206), (3, .int a3), (4, .int a4), (5, .int a5), (6, .int a6)], [.int a5, .ref 206], rf_MM w m)) (by decide +kernel) rfl trivial ?_
  refine rf_if_eq C 7 108 (by decide +kernel) (fun hc => ?_) (fun hc => ?_)
  · replace hg := (if_pos hc).symm.trans hg
    refine rf_seg C [(.iload 4, 2), (.ineg, 1)] (pc' := 111) (S' := ([(0, .ref 206), (3, .int a3), (4, .int a4), (5, .int a5), (6, .int a6)], [.int (-a4), .ref 206], rf_MM w m)) (by decide +kernel) rfl trivial ?_
    refine rf_few [0, 3, 4] rfl ?_
    exact s_X14_isLevelled_111 C hE a5 a6 (-a4) m hg
  · replace hg := (if_neg hc).symm.trans hg
    refine rf_seg C [(.iload 3, 1)] (pc' := 105) (S' := ([(0, .ref 206), (3, .int a3), (4, .int a4), (5, .int a5), (6, .int a6)], [.int a3, .ref 206], rf_MM w m)) (by decide +kernel) rfl trivial ?_
    refine rf_goto C 6 111 (by decide +kernel) ?_
    refine rf_few [0, 3, 4] rfl ?_
    exact s_X14_isLevelled_111 C hE a5 a6 a3 m hg
theorem s_X14_isLevelled_79 {w : rf_w} {K : rf_K} {r : Int32 × rf_m} (C : rf_Ctx 14 cX14_isLevelled 7 3 (rf_sh w) K) (hE : rf_End (some .boolean) K (rf_sh w) 0 0 (some (.int r.1)) (rf_MM w r.2)) (a3 : Int32) (a4 : Int32) (a5 : Int32) (a6 : Int32) (m : rf_m) (hg : g_X14_isLevelled_79 w a3 a4 a5 a6 m = some r) : rf_V 7 (rf_sh w) K 0 0 79 ([(0, .ref 206), (3, .int a3), (4, .int a4), (5, .int a5), (6, .int a6)], [], rf_MM w m) := by
  unfold g_X14_isLevelled_79 at hg
  refine rf_seg C [(.aload 0, 1), (.iload 5, 2)] (pc' := 82) (S' := ([(0, .ref 206), (3, .int a3), (4, .int a4), (5, .int a5), (6, .int a6)], [.int a5, .ref 206], rf_MM w m)) (by decide +kernel) rfl trivial ?_
  refine rf_if_eq C 17 99 (by decide +kernel) (fun hc => ?_) (fun hc => ?_)
  · replace hg := (if_pos hc).symm.trans hg
    refine rf_few [0, 1, 2, 3, 4] rfl ?_
    exact s_X14_isLevelled_99 C hE a3 a4 a5 a6 m hg
  · replace hg := (if_neg hc).symm.trans hg
    refine rf_seg C [(.iload 6, 2)] (pc' := 87) (S' := ([(0, .ref 206), (3, .int a3), (4, .int a4), (5, .int a5), (6, .int a6)], [.int a6, .ref 206], rf_MM w m)) (by decide +kernel) rfl trivial ?_
    refine rf_if_eq C 12 99 (by decide +kernel) (fun hc => ?_) (fun hc => ?_)
    · replace hg := (if_pos hc).symm.trans hg
      refine rf_few [0, 1, 2, 3, 4] rfl ?_
      exact s_X14_isLevelled_99 C hE a3 a4 a5 a6 m hg
    · replace hg := (if_neg hc).symm.trans hg
      refine rf_seg C [(.iload 3, 1), (.iload 4, 2), (.isub, 1), (.iconst 2, 1), (.idiv, 1)] (pc' := 96) (S' := ([(0, .ref 206), (3, .int a3), (4, .int a4), (5, .int a5), (6, .int a6)], [.int ((a3 - a4) / 2), .ref 206], rf_MM w m)) (by decide +kernel) rfl (rf_nz_of (by decide)) ?_
      refine rf_goto C 15 111 (by decide +kernel) ?_
      refine rf_few [0, 3, 4] rfl ?_
      exact s_X14_isLevelled_111 C hE a5 a6 ((a3 - a4) / 2) m hg
theorem s_X14_isLevelled_65 {w : rf_w} {K : rf_K} {r : Int32 × rf_m} (C : rf_Ctx 14 cX14_isLevelled 7 3 (rf_sh w) K) (hE : rf_End (some .boolean) K (rf_sh w) 0 0 (some (.int r.1)) (rf_MM w r.2)) (a3 : Int32) (a4 : Int32) (a5 : Int32) (s0 : Int32) (m : rf_m) (hg : g_X14_isLevelled_65 w a3 a4 a5 s0 m = some r) : rf_V 7 (rf_sh w) K 0 0 65 ([(0, .ref 206), (3, .int a3), (4, .int a4), (5, .int a5)], [.int s0], rf_MM w m) := by
  unfold g_X14_isLevelled_65 at hg
  refine rf_seg C [(.istore 6, 2), (.iload 5, 2)] (pc' := 69) (S' := ([(6, .int s0), (0, .ref 206), (3, .int a3), (4, .int a4), (5, .int a5)], [.int a5], rf_MM w m)) (by decide +kernel) rfl trivial ?_
  refine rf_if_ne C 10 79 (by decide +kernel) (fun hc => ?_) (fun hc => ?_)
  · replace hg := (if_neg hc).symm.trans hg
    refine rf_few [1, 2, 3, 4, 0] rfl ?_
    exact s_X14_isLevelled_79 C hE a3 a4 a5 s0 m hg
  · replace hg := (if_pos hc).symm.trans hg
    refine rf_seg C [(.iload 6, 2)] (pc' := 74) (S' := ([(6, .int s0), (0, .ref 206), (3, .int a3), (4, .int a4), (5, .int a5)], [.int s0], rf_MM w m)) (by decide +kernel) rfl trivial ?_
    refine rf_if_ne C 5 79 (by decide +kernel) (fun hc => ?_) (fun hc => ?_)
    · replace hg := (if_neg hc).symm.trans hg
      refine rf_few [1, 2, 3, 4, 0] rfl ?_
      exact s_X14_isLevelled_79 C hE a3 a4 a5 s0 m hg
    · replace hg := (if_pos hc).symm.trans hg
      refine rf_seg C [(.iconst 0, 1)] (pc' := 78) (S' := ([(6, .int s0), (0, .ref 206), (3, .int a3), (4, .int a4), (5, .int a5)], [.int 0], rf_MM w m)) (by decide +kernel) rfl trivial ?_
      obtain rfl := Option.some.inj hg
      exact rf_zret C hE (by decide) (by decide +kernel)
theorem s_X14_isLevelled_50 {w : rf_w} {K : rf_K} {r : Int32 × rf_m} (C : rf_Ctx 14 cX14_isLevelled 7 3 (rf_sh w) K) (hE : rf_End (some .boolean) K (rf_sh w) 0 0 (some (.int r.1)) (rf_MM w r.2)) (a3 : Int32) (a4 : Int32) (s0 : Int32) (m : rf_m) (hg : g_X14_isLevelled_50 w a3 a4 s0 m = some r) : rf_V 7 (rf_sh w) K 0 0 50 ([(0, .ref 206), (3, .int a3), (4, .int a4)], [.int s0], rf_MM w m) := by
  unfold g_X14_isLevelled_50 at hg
  refine rf_seg C [(.istore 5, 2), (.iload 4, 2), (.iconst (-2147483648), 3)] (pc' := 57) (S' := ([(5, .int s0), (0, .ref 206), (3, .int a3), (4, .int a4)], [.int ((-2147483648)), .int a4], rf_MM w m)) (by decide +kernel) rfl trivial ?_
  refine rf_icmp_eq C 7 64 (by decide +kernel) (fun hc => ?_) (fun hc => ?_)
  · replace hg := (if_pos hc).symm.trans hg
    refine rf_seg C [(.iconst 0, 1)] (pc' := 65) (S' := ([(5, .int s0), (0, .ref 206), (3, .int a3), (4, .int a4)], [.int 0], rf_MM w m)) (by decide +kernel) rfl trivial ?_
    refine rf_few [1, 2, 3, 0] rfl ?_
    exact s_X14_isLevelled_65 C hE a3 a4 s0 0 m hg
  · replace hg := (if_neg hc).symm.trans hg
    refine rf_seg C [(.iconst 1, 1)] (pc' := 61) (S' := ([(5, .int s0), (0, .ref 206), (3, .int a3), (4, .int a4)], [.int 1], rf_MM w m)) (by decide +kernel) rfl trivial ?_
    refine rf_goto C 4 65 (by decide +kernel) ?_
    refine rf_few [1, 2, 3, 0] rfl ?_
    exact s_X14_isLevelled_65 C hE a3 a4 s0 1 m hg
theorem c_X14_isLevelled {w : rf_w} {m : rf_m} {a1 : Int32} {a2 : Int32} {r : Int32 × rf_m} (hg : g_X14_isLevelled w m a1 a2 = some r) : rf_Con j_X14_isLevelled 3 (rf_sh w) [.ref 206, .int a1, .int a2] (rf_MM w m) (some (.int r.1)) (rf_MM w r.2) := by
  refine rf_con j_X14_isLevelled 3 ⟨by decide +kernel, rfl, Nat.le_of_ble_eq_true rfl⟩ (fun K C hE => ?_)
  unfold g_X14_isLevelled at hg
  show rf_V 7 (rf_sh w) K 0 0 0 ([(0, .ref 206), (1, .int a1), (2, .int a2)], [], rf_MM w m)
  refine rf_seg C [(.aload 0, 1), (.iload 1, 1)] (pc' := 2) (S' := ([(0, .ref 206), (1, .int a1), (2, .int a2)], [.int a1, .ref 206], rf_MM w m)) (by decide +kernel) rfl trivial ?_
  obtain ⟨y0, m0, hc0, hg⟩ := rf_b_some hg
  refine rf_callv C rf_fit0 j_X14_isMark (ci := 14) (As := [.int a1]) (rest := []) mw_X14_isMark (c_X14_isMark hc0) (by decide) rfl (by decide) lk_14_360 rfl rfl (Nat.le_of_ble_eq_true rfl) (by decide +kernel) ?_
  show rf_V 7 (rf_sh w) K 0 0 5 ([(0, .ref 206), (1, .int a1), (2, .int a2)], [.int y0], rf_MM w m0)
  refine rf_if_eq C 16 21 (by decide +kernel) (fun hc => ?_) (fun hc => ?_)
  · replace hg := (if_pos hc).symm.trans hg
    refine rf_seg C [(.iconst 0, 1)] (pc' := 22) (S' := ([(0, .ref 206), (1, .int a1), (2, .int a2)], [.int 0], rf_MM w m0)) (by decide +kernel) rfl trivial ?_
    obtain rfl := Option.some.inj hg
    exact rf_zret C hE (by decide) (by decide +kernel)
  · replace hg := (if_neg hc).symm.trans hg
    refine rf_seg C [(.aload 0, 1), (.iload 2, 1)] (pc' := 10) (S' := ([(0, .ref 206), (1, .int a1), (2, .int a2)], [.int a2, .ref 206], rf_MM w m0)) (by decide +kernel) rfl trivial ?_
    obtain ⟨y1, m1, hc1, hg⟩ := rf_b_some hg
    refine rf_callv C rf_fit0 j_X14_isMark (ci := 14) (As := [.int a2]) (rest := []) mw_X14_isMark (c_X14_isMark hc1) (by decide) rfl (by decide) lk_14_360 rfl rfl (Nat.le_of_ble_eq_true rfl) (by decide +kernel) ?_
    show rf_V 7 (rf_sh w) K 0 0 13 ([(0, .ref 206), (1, .int a1), (2, .int a2)], [.int y1], rf_MM w m1)
    refine rf_if_eq C 8 21 (by decide +kernel) (fun hc => ?_) (fun hc => ?_)
    · replace hg := (if_pos hc).symm.trans hg
      refine rf_seg C [(.iconst 0, 1)] (pc' := 22) (S' := ([(0, .ref 206), (1, .int a1), (2, .int a2)], [.int 0], rf_MM w m1)) (by decide +kernel) rfl trivial ?_
      obtain rfl := Option.some.inj hg
      exact rf_zret C hE (by decide) (by decide +kernel)
    · replace hg := (if_neg hc).symm.trans hg
      refine rf_seg C [(.iload 1, 1), (.iload 2, 1)] (pc' := 18) (S' := ([(0, .ref 206), (1, .int a1), (2, .int a2)], [.int a2, .int a1], rf_MM w m1)) (by decide +kernel) rfl trivial ?_
      refine rf_icmp_ne C 5 23 (by decide +kernel) (fun hc => ?_) (fun hc => ?_)
      · replace hg := (if_neg hc).symm.trans hg
        refine rf_seg C [(.aload 0, 1), (.iload 1, 1), (.iload 2, 1)] (pc' := 26) (S' := ([(0, .ref 206), (1, .int a1), (2, .int a2)], [.int a2, .int a1, .ref 206], rf_MM w m1)) (by decide +kernel) rfl trivial ?_
        obtain ⟨y2, m2, hc2, hg⟩ := rf_b_some hg
        refine rf_callv C rf_fit0 j_X14_meanUp (ci := 14) (As := [.int a1, .int a2]) (rest := []) mw_X14_meanUp (c_X14_meanUp hc2) (by decide) rfl (by decide) lk_14_898 rfl rfl (Nat.le_of_ble_eq_true rfl) (by decide +kernel) ?_
        show rf_V 7 (rf_sh w) K 0 0 29 ([(0, .ref 206), (1, .int a1), (2, .int a2)], [.int y2], rf_MM w m2)
        refine rf_seg C [(.istore 3, 1), (.aload 0, 1), (.iload 2, 1), (.iload 1, 1)] (pc' := 33) (S' := ([(3, .int y2), (0, .ref 206), (1, .int a1), (2, .int a2)], [.int a1, .int a2, .ref 206], rf_MM w m2)) (by decide +kernel) rfl trivial ?_
        obtain ⟨y3, m3, hc3, hg⟩ := rf_b_some hg
        refine rf_callv C rf_fit0 j_X14_meanUp (ci := 14) (As := [.int a2, .int a1]) (rest := []) mw_X14_meanUp (c_X14_meanUp hc3) (by decide) rfl (by decide) lk_14_898 rfl rfl (Nat.le_of_ble_eq_true rfl) (by decide +kernel) ?_
        show rf_V 7 (rf_sh w) K 0 0 36 ([(3, .int y2), (0, .ref 206), (1, .int a1), (2, .int a2)], [.int y3], rf_MM w m3)
        refine rf_seg C [(.istore 4, 2), (.iload 3, 1), (.iconst (-2147483648), 3)] (pc' := 42) (S' := ([(4, .int y3), (3, .int y2), (0, .ref 206), (1, .int a1), (2, .int a2)], [.int ((-2147483648)), .int y2], rf_MM w m3)) (by decide +kernel) rfl trivial ?_
        refine rf_icmp_eq C 7 49 (by decide +kernel) (fun hc => ?_) (fun hc => ?_)
        · replace hg := (if_pos hc).symm.trans hg
          refine rf_seg C [(.iconst 0, 1)] (pc' := 50) (S' := ([(4, .int y3), (3, .int y2), (0, .ref 206), (1, .int a1), (2, .int a2)], [.int 0], rf_MM w m3)) (by decide +kernel) rfl trivial ?_
          refine rf_few [2, 1, 0] rfl ?_
          exact s_X14_isLevelled_50 C hE y2 y3 0 m3 hg
        · replace hg := (if_neg hc).symm.trans hg
          refine rf_seg C [(.iconst 1, 1)] (pc' := 46) (S' := ([(4, .int y3), (3, .int y2), (0, .ref 206), (1, .int a1), (2, .int a2)], [.int 1], rf_MM w m3)) (by decide +kernel) rfl trivial ?_
          refine rf_goto C 4 50 (by decide +kernel) ?_
          refine rf_few [2, 1, 0] rfl ?_
          exact s_X14_isLevelled_50 C hE y2 y3 1 m3 hg
      · replace hg := (if_pos hc).symm.trans hg
        refine rf_seg C [(.iconst 0, 1)] (pc' := 22) (S' := ([(0, .ref 206), (1, .int a1), (2, .int a2)], [.int 0], rf_MM w m1)) (by decide +kernel) rfl trivial ?_
        obtain rfl := Option.some.inj hg
        exact rf_zret C hE (by decide) (by decide +kernel)
-- X14_between
abbrev j_X14_between : rf_J := (14, yX14_between, cX14_between, 3, (some .int))
theorem mw_X14_between : rf_mv j_X14_between (rf_R 14) 2 := ⟨⟨rf_mem 93 (by decide +kernel), rf_mem 93 (by decide +kernel), rf_mem 0 (by decide +kernel), rf_mem 93 (by decide +kernel)⟩, by decide +kernel, by decide⟩
def g_X14_between (w : rf_w) (m : rf_m) (a1 : Int32) (a2 : Int32) : Option (Int32 × rf_m) := rf_b (g_X14_isLevelled w (rf_i m 206 0 0) a1 a2) fun y0 m0 => (if y0 = 0 then some ((-2147483648), m0) else some (m0.1 206 139, m0))
theorem c_X14_between {w : rf_w} {m : rf_m} {a1 : Int32} {a2 : Int32} {r : Int32 × rf_m} (hg : g_X14_between w m a1 a2 = some r) : rf_Con j_X14_between 4 (rf_sh w) [.ref 206, .int a1, .int a2] (rf_MM w m) (some (.int r.1)) (rf_MM w r.2) := by
  refine rf_con j_X14_between 4 ⟨by decide +kernel, rfl, Nat.le_of_ble_eq_true rfl⟩ (fun K C hE => ?_)
  unfold g_X14_between at hg
  show rf_V 3 (rf_sh w) K 0 0 0 ([(0, .ref 206), (1, .int a1), (2, .int a2)], [], rf_MM w m)
  refine rf_seg C [(.aload 0, 1), (.iconst 0, 1), (.multianewarray 14 0, 3), (.aload 0, 1), (.iload 1, 1), (.iload 2, 1)] (pc' := 8) (S' := ([(0, .ref 206), (1, .int a1), (2, .int a2)], [.int a2, .int a1, .ref 206], rf_MM w (rf_i m 206 0 0))) (by decide +kernel) rfl trivial ?_
  obtain ⟨y0, m0, hc0, hg⟩ := rf_b_some hg
  refine rf_callv C rf_fit0 j_X14_isLevelled (ci := 14) (As := [.int a1, .int a2]) (rest := []) mw_X14_isLevelled (c_X14_isLevelled hc0) (by decide) rfl (by decide) lk_14_907 rfl rfl (Nat.le_of_ble_eq_true rfl) (by decide +kernel) ?_
  show rf_V 3 (rf_sh w) K 0 0 11 ([(0, .ref 206), (1, .int a1), (2, .int a2)], [.int y0], rf_MM w m0)
  refine rf_if_eq C 10 21 (by decide +kernel) (fun hc => ?_) (fun hc => ?_)
  · replace hg := (if_pos hc).symm.trans hg
    refine rf_seg C [(.iconst (-2147483648), 3)] (pc' := 24) (S' := ([(0, .ref 206), (1, .int a1), (2, .int a2)], [.int ((-2147483648))], rf_MM w m0)) (by decide +kernel) rfl trivial ?_
    obtain rfl := Option.some.inj hg
    exact rf_iret C hE (by decide +kernel)
  · replace hg := (if_neg hc).symm.trans hg
    refine rf_seg C [(.aload 0, 1), (.invokeinterface 14 139, 3)] (pc' := 18) (S' := ([(0, .ref 206), (1, .int a1), (2, .int a2)], [.int (m0.1 206 139)], rf_MM w m0)) (by decide +kernel) rfl trivial ?_
    refine rf_goto C 6 24 (by decide +kernel) ?_
    obtain rfl := Option.some.inj hg
    exact rf_iret C hE (by decide +kernel)
-- X14_doubt
abbrev j_X14_doubt : rf_J := (14, yX14_doubt, cX14_doubt, 3, (some .int))
theorem mw_X14_doubt : rf_mv j_X14_doubt (rf_R 14) 2 := ⟨⟨rf_mem 94 (by decide +kernel), rf_mem 94 (by decide +kernel), rf_mem 0 (by decide +kernel), rf_mem 94 (by decide +kernel)⟩, by decide +kernel, by decide⟩
def g_X14_doubt (w : rf_w) (m : rf_m) (a1 : Int32) (a2 : Int32) : Option (Int32 × rf_m) := rf_b (g_X14_isLevelled w (rf_i m 206 0 0) a1 a2) fun y0 m0 => (if y0 = 0 then some ((-1), m0) else some (m0.1 206 140, m0))
theorem c_X14_doubt {w : rf_w} {m : rf_m} {a1 : Int32} {a2 : Int32} {r : Int32 × rf_m} (hg : g_X14_doubt w m a1 a2 = some r) : rf_Con j_X14_doubt 4 (rf_sh w) [.ref 206, .int a1, .int a2] (rf_MM w m) (some (.int r.1)) (rf_MM w r.2) := by
  refine rf_con j_X14_doubt 4 ⟨by decide +kernel, rfl, Nat.le_of_ble_eq_true rfl⟩ (fun K C hE => ?_)
  unfold g_X14_doubt at hg
  show rf_V 3 (rf_sh w) K 0 0 0 ([(0, .ref 206), (1, .int a1), (2, .int a2)], [], rf_MM w m)
  refine rf_seg C [(.aload 0, 1), (.iconst 0, 1), (.multianewarray 14 0, 3), (.aload 0, 1), (.iload 1, 1), (.iload 2, 1)] (pc' := 8) (S' := ([(0, .ref 206), (1, .int a1), (2, .int a2)], [.int a2, .int a1, .ref 206], rf_MM w (rf_i m 206 0 0))) (by decide +kernel) rfl trivial ?_
  obtain ⟨y0, m0, hc0, hg⟩ := rf_b_some hg
  refine rf_callv C rf_fit0 j_X14_isLevelled (ci := 14) (As := [.int a1, .int a2]) (rest := []) mw_X14_isLevelled (c_X14_isLevelled hc0) (by decide) rfl (by decide) lk_14_907 rfl rfl (Nat.le_of_ble_eq_true rfl) (by decide +kernel) ?_
  show rf_V 3 (rf_sh w) K 0 0 11 ([(0, .ref 206), (1, .int a1), (2, .int a2)], [.int y0], rf_MM w m0)
  refine rf_if_eq C 10 21 (by decide +kernel) (fun hc => ?_) (fun hc => ?_)
  · replace hg := (if_pos hc).symm.trans hg
    refine rf_seg C [(.iconst (-1), 1)] (pc' := 22) (S' := ([(0, .ref 206), (1, .int a1), (2, .int a2)], [.int ((-1))], rf_MM w m0)) (by decide +kernel) rfl trivial ?_
    obtain rfl := Option.some.inj hg
    exact rf_iret C hE (by decide +kernel)
  · replace hg := (if_neg hc).symm.trans hg
    refine rf_seg C [(.aload 0, 1), (.invokeinterface 14 140, 3)] (pc' := 18) (S' := ([(0, .ref 206), (1, .int a1), (2, .int a2)], [.int (m0.1 206 140)], rf_MM w m0)) (by decide +kernel) rfl trivial ?_
    refine rf_goto C 4 22 (by decide +kernel) ?_
    obtain rfl := Option.some.inj hg
    exact rf_iret C hE (by decide +kernel)
-- X14_mass
abbrev j_X14_mass : rf_J := (14, yX14_mass, cX14_mass, 3, (some .int))
theorem mw_X14_mass : rf_mv j_X14_mass (rf_R 14) 2 := ⟨⟨rf_mem 94 (by decide +kernel), rf_mem 94 (by decide +kernel), rf_mem 0 (by decide +kernel), rf_mem 94 (by decide +kernel)⟩, by decide +kernel, by decide⟩
def g_X14_mass (w : rf_w) (m : rf_m) (a1 : Int32) (a2 : Int32) : Option (Int32 × rf_m) := rf_b (g_X14_isCell w (rf_i m 206 0 0) a1) fun y0 m0 => (if y0 = 0 then rf_b (g_X14_refused w m0 1) fun y7 m7 => some (y7, m7) else rf_b (g_X14_in w m0 a2 1 1000000) fun y1 m1 => (if y1 = 0 then rf_b (g_X14_refused w m1 2) fun y6 m6 => some (y6, m6) else (if (m1.1 206 137) = 12 then rf_b (g_X14_refused w m1 3) fun y5 m5 => some (y5, m5) else rf_g (rf_in (m1.1 206 137) 12) (rf_g (rf_in ((rf_i m1 301 (Int32.toNatClampNeg (m1.1 206 137)) a1).1 206 137) 12) (rf_b (g_X14_done w (rf_i (rf_i (rf_i m1 301 (Int32.toNatClampNeg (m1.1 206 137)) a1) 302 (Int32.toNatClampNeg ((rf_i m1 301 (Int32.toNatClampNeg (m1.1 206 137)) a1).1 206 137)) a2) 206 137 (((rf_i (rf_i m1 301 (Int32.toNatClampNeg (m1.1 206 137)) a1) 302 (Int32.toNatClampNeg ((rf_i m1 301 (Int32.toNatClampNeg (m1.1 206 137)) a1).1 206 137)) a2).1 206 137) + 1)) (((rf_i (rf_i (rf_i m1 301 (Int32.toNatClampNeg (m1.1 206 137)) a1) 302 (Int32.toNatClampNeg ((rf_i m1 301 (Int32.toNatClampNeg (m1.1 206 137)) a1).1 206 137)) a2) 206 137 (((rf_i (rf_i m1 301 (Int32.toNatClampNeg (m1.1 206 137)) a1) 302 (Int32.toNatClampNeg ((rf_i m1 301 (Int32.toNatClampNeg (m1.1 206 137)) a1).1 206 137)) a2).1 206 137) + 1)).1 206 137) - 1)) fun y4 m4 => some (y4, m4))))))
theorem c_X14_mass {w : rf_w} {m : rf_m} {a1 : Int32} {a2 : Int32} {r : Int32 × rf_m} (hg : g_X14_mass w m a1 a2 = some r) : rf_Con j_X14_mass 2 (rf_sh w) [.ref 206, .int a1, .int a2] (rf_MM w m) (some (.int r.1)) (rf_MM w r.2) := by
  refine rf_con j_X14_mass 2 ⟨by decide +kernel, rfl, Nat.le_of_ble_eq_true rfl⟩ (fun K C hE => ?_)
  unfold g_X14_mass at hg
  show rf_V 3 (rf_sh w) K 0 0 0 ([(0, .ref 206), (1, .int a1), (2, .int a2)], [], rf_MM w m)
  refine rf_seg C [(.aload 0, 1), (.iconst 0, 1), (.multianewarray 14 0, 3), (.iload 1, 1)] (pc' := 6) (S' := ([(0, .ref 206), (1, .int a1), (2, .int a2)], [.int a1], rf_MM w (rf_i m 206 0 0))) (by decide +kernel) rfl trivial ?_
  obtain ⟨y0, m0, hc0, hg⟩ := rf_b_some hg
  refine rf_calls C rf_fit0 j_X14_isCell (As := [.int a1]) (rest := []) mw_X14_isCell (c_X14_isCell hc0) (by decide) lk_14_338 rfl rfl (Nat.le_of_ble_eq_true rfl) (by decide +kernel) ?_
  show rf_V 3 (rf_sh w) K 0 0 9 ([(0, .ref 206), (1, .int a1), (2, .int a2)], [.int y0], rf_MM w m0)
  refine rf_if_ne C 9 18 (by decide +kernel) (fun hc => ?_) (fun hc => ?_)
  · replace hg := (if_neg hc).symm.trans hg
    refine rf_seg C [(.iload 2, 1), (.iconst 1, 1), (.iconst 1000000, 3)] (pc' := 23) (S' := ([(0, .ref 206), (1, .int a1), (2, .int a2)], [.int 1000000, .int 1, .int a2], rf_MM w m0)) (by decide +kernel) rfl trivial ?_
    obtain ⟨y1, m1, hc1, hg⟩ := rf_b_some hg
    refine rf_calls C rf_fit0 j_X14_in (As := [.int a2, .int 1, .int 1000000]) (rest := []) mw_X14_in (c_X14_in hc1) (by decide) lk_14_345 rfl rfl (Nat.le_of_ble_eq_true rfl) (by decide +kernel) ?_
    show rf_V 3 (rf_sh w) K 0 0 26 ([(0, .ref 206), (1, .int a1), (2, .int a2)], [.int y1], rf_MM w m1)
    refine rf_if_ne C 9 35 (by decide +kernel) (fun hc => ?_) (fun hc => ?_)
    · replace hg := (if_neg hc).symm.trans hg
      refine rf_seg C [(.aload 0, 1), (.invokeinterface 14 137, 3), (.iconst 12, 2)] (pc' := 41) (S' := ([(0, .ref 206), (1, .int a1), (2, .int a2)], [.int 12, .int (m1.1 206 137)], rf_MM w m1)) (by decide +kernel) rfl trivial ?_
      refine rf_icmp_ne C 9 50 (by decide +kernel) (fun hc => ?_) (fun hc => ?_)
      · replace hg := (if_neg hc).symm.trans hg
        obtain ⟨q2, hg⟩ := rf_g_some hg
        obtain ⟨q3, hg⟩ := rf_g_some hg
        refine rf_seg C [(.aload 0, 1), (.invokeinterface 14 144, 3), (.aload 0, 1), (.invokeinterface 14 137, 3), (.iload 1, 1), (.iastore, 1), (.aload 0, 1), (.invokeinterface 14 145, 3), (.aload 0, 1), (.invokeinterface 14 137, 3), (.iload 2, 1), (.iastore, 1), (.aload 0, 1), (.dup, 1), (.invokeinterface 14 137, 3), (.iconst 1, 1), (.iadd, 1), (.multianewarray 14 137, 3), (.aload 0, 1), (.aload 0, 1), (.invokeinterface 14 137, 3), (.iconst 1, 1), (.isub, 1)] (pc' := 87) (S' := ([(0, .ref 206), (1, .int a1), (2, .int a2)], [.int (((rf_i (rf_i (rf_i m1 301 (Int32.toNatClampNeg (m1.1 206 137)) a1) 302 (Int32.toNatClampNeg ((rf_i m1 301 (Int32.toNatClampNeg (m1.1 206 137)) a1).1 206 137)) a2) 206 137 (((rf_i (rf_i m1 301 (Int32.toNatClampNeg (m1.1 206 137)) a1) 302 (Int32.toNatClampNeg ((rf_i m1 301 (Int32.toNatClampNeg (m1.1 206 137)) a1).1 206 137)) a2).1 206 137) + 1)).1 206 137) - 1), .ref 206], rf_MM w (rf_i (rf_i (rf_i m1 301 (Int32.toNatClampNeg (m1.1 206 137)) a1) 302 (Int32.toNatClampNeg ((rf_i m1 301 (Int32.toNatClampNeg (m1.1 206 137)) a1).1 206 137)) a2) 206 137 (((rf_i (rf_i m1 301 (Int32.toNatClampNeg (m1.1 206 137)) a1) 302 (Int32.toNatClampNeg ((rf_i m1 301 (Int32.toNatClampNeg (m1.1 206 137)) a1).1 206 137)) a2).1 206 137) + 1)))) (by decide +kernel) rfl (by exact ⟨(rf_in_of q2), (rf_in_of q3)⟩) ?_
        obtain ⟨y4, m4, hc4, hg⟩ := rf_b_some hg
        refine rf_callv C rf_fit0 j_X14_done (ci := 14) (As := [.int (((rf_i (rf_i (rf_i m1 301 (Int32.toNatClampNeg (m1.1 206 137)) a1) 302 (Int32.toNatClampNeg ((rf_i m1 301 (Int32.toNatClampNeg (m1.1 206 137)) a1).1 206 137)) a2) 206 137 (((rf_i (rf_i m1 301 (Int32.toNatClampNeg (m1.1 206 137)) a1) 302 (Int32.toNatClampNeg ((rf_i m1 301 (Int32.toNatClampNeg (m1.1 206 137)) a1).1 206 137)) a2).1 206 137) + 1)).1 206 137) - 1)]) (rest := []) mw_X14_done (c_X14_done hc4) (by decide) rfl (by decide) lk_14_357 rfl rfl (Nat.le_of_ble_eq_true rfl) (by decide +kernel) ?_
        show rf_V 3 (rf_sh w) K 0 0 90 ([(0, .ref 206), (1, .int a1), (2, .int a2)], [.int y4], rf_MM w m4)
        obtain rfl := Option.some.inj hg
        exact rf_iret C hE (by decide +kernel)
      · replace hg := (if_pos hc).symm.trans hg
        refine rf_seg C [(.aload 0, 1), (.iconst 3, 1)] (pc' := 46) (S' := ([(0, .ref 206), (1, .int a1), (2, .int a2)], [.int 3, .ref 206], rf_MM w m1)) (by decide +kernel) rfl trivial ?_
        obtain ⟨y5, m5, hc5, hg⟩ := rf_b_some hg
        refine rf_callv C rf_fit0 j_X14_refused (ci := 14) (As := [.int 3]) (rest := []) mw_X14_refused (c_X14_refused hc5) (by decide) rfl (by decide) lk_14_353 rfl rfl (Nat.le_of_ble_eq_true rfl) (by decide +kernel) ?_
        show rf_V 3 (rf_sh w) K 0 0 49 ([(0, .ref 206), (1, .int a1), (2, .int a2)], [.int y5], rf_MM w m5)
        obtain rfl := Option.some.inj hg
        exact rf_iret C hE (by decide +kernel)
    · replace hg := (if_pos hc).symm.trans hg
      refine rf_seg C [(.aload 0, 1), (.iconst 2, 1)] (pc' := 31) (S' := ([(0, .ref 206), (1, .int a1), (2, .int a2)], [.int 2, .ref 206], rf_MM w m1)) (by decide +kernel) rfl trivial ?_
      obtain ⟨y6, m6, hc6, hg⟩ := rf_b_some hg
      refine rf_callv C rf_fit0 j_X14_refused (ci := 14) (As := [.int 2]) (rest := []) mw_X14_refused (c_X14_refused hc6) (by decide) rfl (by decide) lk_14_353 rfl rfl (Nat.le_of_ble_eq_true rfl) (by decide +kernel) ?_
      show rf_V 3 (rf_sh w) K 0 0 34 ([(0, .ref 206), (1, .int a1), (2, .int a2)], [.int y6], rf_MM w m6)
      obtain rfl := Option.some.inj hg
      exact rf_iret C hE (by decide +kernel)
  · replace hg := (if_pos hc).symm.trans hg
    refine rf_seg C [(.aload 0, 1), (.iconst 1, 1)] (pc' := 14) (S' := ([(0, .ref 206), (1, .int a1), (2, .int a2)], [.int 1, .ref 206], rf_MM w m0)) (by decide +kernel) rfl trivial ?_
    obtain ⟨y7, m7, hc7, hg⟩ := rf_b_some hg
    refine rf_callv C rf_fit0 j_X14_refused (ci := 14) (As := [.int 1]) (rest := []) mw_X14_refused (c_X14_refused hc7) (by decide) rfl (by decide) lk_14_353 rfl rfl (Nat.le_of_ble_eq_true rfl) (by decide +kernel) ?_
    show rf_V 3 (rf_sh w) K 0 0 17 ([(0, .ref 206), (1, .int a1), (2, .int a2)], [.int y7], rf_MM w m7)
    obtain rfl := Option.some.inj hg
    exact rf_iret C hE (by decide +kernel)
