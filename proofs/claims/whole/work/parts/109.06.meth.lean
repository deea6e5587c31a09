/-! methods as functions, and their contracts (written by wip/tool/gen.py) -/
-- X14_guilty
abbrev j_X14_guilty : rf_J := (14, yX14_guilty, cX14_guilty, 2, (some .int))
theorem mw_X14_guilty : rf_mv j_X14_guilty (rf_R 14) 1 := ⟨⟨rf_mem 87 (by decide +kernel), rf_mem 87 (by decide +kernel), rf_mem 0 (by decide +kernel), rf_mem 87 (by decide +kernel)⟩, by decide +kernel, by decide⟩
def g_X14_guilty (w : rf_w) (m : rf_m) (a1 : Int32) : Option (Int32 × rf_m) := (if a1 < 0 then some ((-1), rf_i m 206 0 0) else (if ((rf_i m 206 0 0).1 206 117) ≤ a1 then some ((-1), rf_i m 206 0 0) else rf_g (rf_in a1 12) (some ((rf_i m 206 0 0).1 284 (Int32.toNatClampNeg a1), rf_i m 206 0 0))))
theorem c_X14_guilty {w : rf_w} {m : rf_m} {a1 : Int32} {r : Int32 × rf_m} (hg : g_X14_guilty w m a1 = some r) : rf_Con j_X14_guilty 1 (rf_sh w) [.ref 206, .int a1] (rf_MM w m) (some (.int r.1)) (rf_MM w r.2) := by
  refine rf_con j_X14_guilty 1 ⟨by decide +kernel, rfl, Nat.le_of_ble_eq_true rfl⟩ (fun K C hE => ?_)
  unfold g_X14_guilty at hg
  show rf_V 2 (rf_sh w) K 0 0 0 ([(0, .ref 206), (1, .int a1)], [], rf_MM w m)
  refine rf_seg C [(.aload 0, 1), (.iconst 0, 1), (.multianewarray 14 0, 3), (.iload 1, 1)] (pc' := 6) (S' := ([(0, .ref 206), (1, .int a1)], [.int a1], rf_MM w (rf_i m 206 0 0))) (by decide +kernel) rfl trivial ?_
  refine rf_if_lt C 20 26 (by decide +kernel) (fun hc => ?_) (fun hc => ?_)
  · replace hg := (if_pos hc).symm.trans hg
    refine rf_seg C [(.iconst (-1), 1)] (pc' := 27) (S' := ([(0, .ref 206), (1, .int a1)], [.int ((-1))], rf_MM w (rf_i m 206 0 0))) (by decide +kernel) rfl trivial ?_
    obtain rfl := Option.some.inj hg
    exact rf_iret C hE (by decide +kernel)
  · replace hg := (if_neg hc).symm.trans hg
    refine rf_seg C [(.iload 1, 1), (.aload 0, 1), (.invokeinterface 14 117, 3)] (pc' := 14) (S' := ([(0, .ref 206), (1, .int a1)], [.int ((rf_i m 206 0 0).1 206 117), .int a1], rf_MM w (rf_i m 206 0 0))) (by decide +kernel) rfl trivial ?_
    refine rf_icmp_ge C 12 26 (by decide +kernel) (fun hc => ?_) (fun hc => ?_)
    · replace hg := (if_pos hc).symm.trans hg
      refine rf_seg C [(.iconst (-1), 1)] (pc' := 27) (S' := ([(0, .ref 206), (1, .int a1)], [.int ((-1))], rf_MM w (rf_i m 206 0 0))) (by decide +kernel) rfl trivial ?_
      obtain rfl := Option.some.inj hg
      exact rf_iret C hE (by decide +kernel)
    · replace hg := (if_neg hc).symm.trans hg
      obtain ⟨q0, hg⟩ := rf_g_some hg
      refine rf_seg C [(.aload 0, 1), (.invokeinterface 14 121, 3), (.iload 1, 1), (.iaload, 1)] (pc' := 23) (S' := ([(0, .ref 206), (1, .int a1)], [.int ((rf_i m 206 0 0).1 284 (Int32.toNatClampNeg a1))], rf_MM w (rf_i m 206 0 0))) (by decide +kernel) rfl (rf_in_of q0) ?_
      refine rf_goto C 4 27 (by decide +kernel) ?_
      obtain rfl := Option.some.inj hg
      exact rf_iret C hE (by decide +kernel)
-- X14_rivals
abbrev j_X14_rivals : rf_J := (14, yX14_rivals, cX14_rivals, 1, (some .int))
theorem mw_X14_rivals : rf_mv j_X14_rivals (rf_R 14) 0 := ⟨⟨rf_mem 87 (by decide +kernel), rf_mem 87 (by decide +kernel), rf_mem 0 (by decide +kernel), rf_mem 87 (by decide +kernel)⟩, by decide +kernel, by decide⟩
def g_X14_rivals (w : rf_w) (m : rf_m) : Option (Int32 × rf_m) := some ((rf_i m 206 0 0).1 206 118, rf_i m 206 0 0)
theorem c_X14_rivals {w : rf_w} {m : rf_m} {r : Int32 × rf_m} (hg : g_X14_rivals w m = some r) : rf_Con j_X14_rivals 1 (rf_sh w) [.ref 206] (rf_MM w m) (some (.int r.1)) (rf_MM w r.2) := by
  refine rf_con j_X14_rivals 1 ⟨by decide +kernel, rfl, Nat.le_of_ble_eq_true rfl⟩ (fun K C hE => ?_)
  unfold g_X14_rivals at hg
  show rf_V 1 (rf_sh w) K 0 0 0 ([(0, .ref 206)], [], rf_MM w m)
  refine rf_seg C [(.aload 0, 1), (.iconst 0, 1), (.multianewarray 14 0, 3), (.aload 0, 1), (.invokeinterface 14 118, 3)] (pc' := 9) (S' := ([(0, .ref 206)], [.int ((rf_i m 206 0 0).1 206 118)], rf_MM w (rf_i m 206 0 0))) (by decide +kernel) rfl trivial ?_
  obtain rfl := Option.some.inj hg
  exact rf_iret C hE (by decide +kernel)
-- X14_star
abbrev j_X14_star : rf_J := (14, yX14_star, cX14_star, 5, (some .int))
theorem mw_X14_star : rf_mv j_X14_star (rf_R 14) 4 := ⟨⟨rf_mem 88 (by decide +kernel), rf_mem 88 (by decide +kernel), rf_mem 0 (by decide +kernel), rf_mem 88 (by decide +kernel)⟩, by decide +kernel, by decide⟩
def g_X14_star (w : rf_w) (m : rf_m) (a1 : Int32) (a2 : Int32) (a3 : Int32) (a4 : Int32) : Option (Int32 × rf_m) := rf_b (g_X14_isMark w (rf_i m 206 0 0) a1) fun y0 m0 => (if y0 = 0 then rf_b (g_X14_refused w m0 1) fun y1 m1 => some (y1, m1) else rf_b (g_X14_isMark w m0 a2) fun y2 m2 => (if y2 = 0 then rf_b (g_X14_refused w m2 1) fun y3 m3 => some (y3, m3) else (if a1 = a2 then rf_b (g_X14_refused w m2 1) fun y13 m13 => some (y13, m13) else rf_b (g_X14_in w m2 a3 0 12959999) fun y4 m4 => (if y4 = 0 then rf_b (g_X14_refused w m4 2) fun y5 m5 => some (y5, m5) else rf_b (g_X14_isHour w m4 a4) fun y6 m6 => (if y6 = 0 then rf_b (g_X14_refused w m6 2) fun y12 m12 => some (y12, m12) else (if (m6.1 206 126) = 20 then rf_b (g_X14_refused w m6 3) fun y11 m11 => some (y11, m11) else rf_g (rf_in (m6.1 206 126) 20) (rf_g (rf_in ((rf_i m6 289 (Int32.toNatClampNeg (m6.1 206 126)) a1).1 206 126) 20) (rf_g (rf_in ((rf_i (rf_i m6 289 (Int32.toNatClampNeg (m6.1 206 126)) a1) 290 (Int32.toNatClampNeg ((rf_i m6 289 (Int32.toNatClampNeg (m6.1 206 126)) a1).1 206 126)) a2).1 206 126) 20) (rf_b (g_X14_done w (rf_i (rf_i (rf_i (rf_i m6 289 (Int32.toNatClampNeg (m6.1 206 126)) a1) 290 (Int32.toNatClampNeg ((rf_i m6 289 (Int32.toNatClampNeg (m6.1 206 126)) a1).1 206 126)) a2) 291 (Int32.toNatClampNeg ((rf_i (rf_i m6 289 (Int32.toNatClampNeg (m6.1 206 126)) a1) 290 (Int32.toNatClampNeg ((rf_i m6 289 (Int32.toNatClampNeg (m6.1 206 126)) a1).1 206 126)) a2).1 206 126)) a3) 206 126 (((rf_i (rf_i (rf_i m6 289 (Int32.toNatClampNeg (m6.1 206 126)) a1) 290 (Int32.toNatClampNeg ((rf_i m6 289 (Int32.toNatClampNeg (m6.1 206 126)) a1).1 206 126)) a2) 291 (Int32.toNatClampNeg ((rf_i (rf_i m6 289 (Int32.toNatClampNeg (m6.1 206 126)) a1) 290 (Int32.toNatClampNeg ((rf_i m6 289 (Int32.toNatClampNeg (m6.1 206 126)) a1).1 206 126)) a2).1 206 126)) a3).1 206 126) + 1)) (((rf_i (rf_i (rf_i (rf_i m6 289 (Int32.toNatClampNeg (m6.1 206 126)) a1) 290 (Int32.toNatClampNeg ((rf_i m6 289 (Int32.toNatClampNeg (m6.1 206 126)) a1).1 206 126)) a2) 291 (Int32.toNatClampNeg ((rf_i (rf_i m6 289 (Int32.toNatClampNeg (m6.1 206 126)) a1) 290 (Int32.toNatClampNeg ((rf_i m6 289 (Int32.toNatClampNeg (m6.1 206 126)) a1).1 206 126)) a2).1 206 126)) a3) 206 126 (((rf_i (rf_i (rf_i m6 289 (Int32.toNatClampNeg (m6.1 206 126)) a1) 290 (Int32.toNatClampNeg ((rf_i m6 289 (Int32.toNatClampNeg (m6.1 206 126)) a1).1 206 126)) a2) 291 (Int32.toNatClampNeg ((rf_i (rf_i m6 289 (Int32.toNatClampNeg (m6.1 206 126)) a1) 290 (Int32.toNatClampNeg ((rf_i m6 289 (Int32.toNatClampNeg (m6.1 206 126)) a1).1 206 126)) a2).1 206 126)) a3).1 206 126) + 1)).1 206 126) - 1)) fun y10 m10 => some (y10, m10))))))))))
theorem c_X14_star {w : rf_w} {m : rf_m} {a1 : Int32} {a2 : Int32} {a3 : Int32} {a4 : Int32} {r : Int32 × rf_m} (hg : g_X14_star w m a1 a2 a3 a4 = some r) : rf_Con j_X14_star 2 (rf_sh w) [.ref 206, .int a1, .int a2, .int a3, .int a4] (rf_MM w m) (some (.int r.1)) (rf_MM w r.2) := by
  refine rf_con j_X14_star 2 ⟨by decide +kernel, rfl, Nat.le_of_ble_eq_true rfl⟩ (fun K C hE => ?_)
  unfold g_X14_star at hg
  show rf_V 5 (rf_sh w) K 0 0 0 ([(0, .ref 206), (1, .int a1), (2, .int a2), (3, .int a3), (4, .int a4)], [], rf_MM w m)
  refine rf_seg C [(.aload 0, 1), (.iconst 0, 1), (.multianewarray 14 0, 3), (.aload 0, 1), (.iload 1, 1)] (pc' := 7) (S' := ([(0, .ref 206), (1, .int a1), (2, .int a2), (3, .int a3), (4, .int a4)], [.int a1, .ref 206], rf_MM w (rf_i m 206 0 0))) (by decide +kernel) rfl trivial ?_
  obtain ⟨y0, m0, hc0, hg⟩ := rf_b_some hg
  refine rf_callv C rf_fit0 j_X14_isMark (ci := 14) (As := [.int a1]) (rest := []) mw_X14_isMark (c_X14_isMark hc0) (by decide) rfl (by decide) lk_14_360 rfl rfl (Nat.le_of_ble_eq_true rfl) (by decide +kernel) ?_
  show rf_V 5 (rf_sh w) K 0 0 10 ([(0, .ref 206), (1, .int a1), (2, .int a2), (3, .int a3), (4, .int a4)], [.int y0], rf_MM w m0)
  refine rf_if_eq C 16 26 (by decide +kernel) (fun hc => ?_) (fun hc => ?_)
  · replace hg := (if_pos hc).symm.trans hg
    refine rf_seg C [(.aload 0, 1), (.iconst 1, 1)] (pc' := 28) (S' := ([(0, .ref 206), (1, .int a1), (2, .int a2), (3, .int a3), (4, .int a4)], [.int 1, .ref 206], rf_MM w m0)) (by decide +kernel) rfl trivial ?_
    obtain ⟨y1, m1, hc1, hg⟩ := rf_b_some hg
    refine rf_callv C rf_fit0 j_X14_refused (ci := 14) (As := [.int 1]) (rest := []) mw_X14_refused (c_X14_refused hc1) (by decide) rfl (by decide) lk_14_353 rfl rfl (Nat.le_of_ble_eq_true rfl) (by decide +kernel) ?_
    show rf_V 5 (rf_sh w) K 0 0 31 ([(0, .ref 206), (1, .int a1), (2, .int a2), (3, .int a3), (4, .int a4)], [.int y1], rf_MM w m1)
    obtain rfl := Option.some.inj hg
    exact rf_iret C hE (by decide +kernel)
  · replace hg := (if_neg hc).symm.trans hg
    refine rf_seg C [(.aload 0, 1), (.iload 2, 1)] (pc' := 15) (S' := ([(0, .ref 206), (1, .int a1), (2, .int a2), (3, .int a3), (4, .int a4)], [.int a2, .ref 206], rf_MM w m0)) (by decide +kernel) rfl trivial ?_
    obtain ⟨y2, m2, hc2, hg⟩ := rf_b_some hg
    refine rf_callv C rf_fit0 j_X14_isMark (ci := 14) (As := [.int a2]) (rest := []) mw_X14_isMark (c_X14_isMark hc2) (by decide) rfl (by decide) lk_14_360 rfl rfl (Nat.le_of_ble_eq_true rfl) (by decide +kernel) ?_
    show rf_V 5 (rf_sh w) K 0 0 18 ([(0, .ref 206), (1, .int a1), (2, .int a2), (3, .int a3), (4, .int a4)], [.int y2], rf_MM w m2)
    refine rf_if_eq C 8 26 (by decide +kernel) (fun hc => ?_) (fun hc => ?_)
    · replace hg := (if_pos hc).symm.trans hg
      refine rf_seg C [(.aload 0, 1), (.iconst 1, 1)] (pc' := 28) (S' := ([(0, .ref 206), (1, .int a1), (2, .int a2), (3, .int a3), (4, .int a4)], [.int 1, .ref 206], rf_MM w m2)) (by decide +kernel) rfl trivial ?_
      obtain ⟨y3, m3, hc3, hg⟩ := rf_b_some hg
      refine rf_callv C rf_fit0 j_X14_refused (ci := 14) (As := [.int 1]) (rest := []) mw_X14_refused (c_X14_refused hc3) (by decide) rfl (by decide) lk_14_353 rfl rfl (Nat.le_of_ble_eq_true rfl) (by decide +kernel) ?_
      show rf_V 5 (rf_sh w) K 0 0 31 ([(0, .ref 206), (1, .int a1), (2, .int a2), (3, .int a3), (4, .int a4)], [.int y3], rf_MM w m3)
      obtain rfl := Option.some.inj hg
      exact rf_iret C hE (by decide +kernel)
    · replace hg := (if_neg hc).symm.trans hg
      refine rf_seg C [(.iload 1, 1), (.iload 2, 1)] (pc' := 23) (S' := ([(0, .ref 206), (1, .int a1), (2, .int a2), (3, .int a3), (4, .int a4)], [.int a2, .int a1], rf_MM w m2)) (by decide +kernel) rfl trivial ?_
      refine rf_icmp_ne C 9 32 (by decide +kernel) (fun hc => ?_) (fun hc => ?_)
      · replace hg := (if_neg hc).symm.trans hg
        refine rf_seg C [(.iload 3, 1), (.iconst 0, 1), (.iconst 12959999, 3)] (pc' := 37) (S' := ([(0, .ref 206), (1, .int a1), (2, .int a2), (3, .int a3), (4, .int a4)], [.int 12959999, .int 0, .int a3], rf_MM w m2)) (by decide +kernel) rfl trivial ?_
        obtain ⟨y4, m4, hc4, hg⟩ := rf_b_some hg
        refine rf_calls C rf_fit0 j_X14_in (As := [.int a3, .int 0, .int 12959999]) (rest := []) mw_X14_in (c_X14_in hc4) (by decide) lk_14_345 rfl rfl (Nat.le_of_ble_eq_true rfl) (by decide +kernel) ?_
        show rf_V 5 (rf_sh w) K 0 0 40 ([(0, .ref 206), (1, .int a1), (2, .int a2), (3, .int a3), (4, .int a4)], [.int y4], rf_MM w m4)
        refine rf_if_eq C 11 51 (by decide +kernel) (fun hc => ?_) (fun hc => ?_)
        · replace hg := (if_pos hc).symm.trans hg
          refine rf_seg C [(.aload 0, 1), (.iconst 2, 1)] (pc' := 53) (S' := ([(0, .ref 206), (1, .int a1), (2, .int a2), (3, .int a3), (4, .int a4)], [.int 2, .ref 206], rf_MM w m4)) (by decide +kernel) rfl trivial ?_
          obtain ⟨y5, m5, hc5, hg⟩ := rf_b_some hg
          refine rf_callv C rf_fit0 j_X14_refused (ci := 14) (As := [.int 2]) (rest := []) mw_X14_refused (c_X14_refused hc5) (by decide) rfl (by decide) lk_14_353 rfl rfl (Nat.le_of_ble_eq_true rfl) (by decide +kernel) ?_
          show rf_V 5 (rf_sh w) K 0 0 56 ([(0, .ref 206), (1, .int a1), (2, .int a2), (3, .int a3), (4, .int a4)], [.int y5], rf_MM w m5)
          obtain rfl := Option.some.inj hg
          exact rf_iret C hE (by decide +kernel)
        · replace hg := (if_neg hc).symm.trans hg
          refine rf_seg C [(.iload 4, 2)] (pc' := 45) (S' := ([(0, .ref 206), (1, .int a1), (2, .int a2), (3, .int a3), (4, .int a4)], [.int a4], rf_MM w m4)) (by decide +kernel) rfl trivial ?_
          obtain ⟨y6, m6, hc6, hg⟩ := rf_b_some hg
          refine rf_calls C rf_fit0 j_X14_isHour (As := [.int a4]) (rest := []) mw_X14_isHour (c_X14_isHour hc6) (by decide) lk_14_369 rfl rfl (Nat.le_of_ble_eq_true rfl) (by decide +kernel) ?_
          show rf_V 5 (rf_sh w) K 0 0 48 ([(0, .ref 206), (1, .int a1), (2, .int a2), (3, .int a3), (4, .int a4)], [.int y6], rf_MM w m6)
          refine rf_if_ne C 9 57 (by decide +kernel) (fun hc => ?_) (fun hc => ?_)
          · replace hg := (if_neg hc).symm.trans hg
            refine rf_seg C [(.aload 0, 1), (.invokeinterface 14 126, 3), (.iconst 20, 2)] (pc' := 63) (S' := ([(0, .ref 206), (1, .int a1), (2, .int a2), (3, .int a3), (4, .int a4)], [.int 20, .int (m6.1 206 126)], rf_MM w m6)) (by decide +kernel) rfl trivial ?_
            refine rf_icmp_ne C 9 72 (by decide +kernel) (fun hc => ?_) (fun hc => ?_)
            · replace hg := (if_neg hc).symm.trans hg
              obtain ⟨q7, hg⟩ := rf_g_some hg
              obtain ⟨q8, hg⟩ := rf_g_some hg
              obtain ⟨q9, hg⟩ := rf_g_some hg
              refine rf_seg C [(.aload 0, 1), (.invokeinterface 14 127, 3), (.aload 0, 1), (.invokeinterface 14 126, 3), (.iload 1, 1), (.iastore, 1), (.aload 0, 1), (.invokeinterface 14 128, 3), (.aload 0, 1), (.invokeinterface 14 126, 3), (.iload 2, 1), (.iastore, 1), (.aload 0, 1), (.invokeinterface 14 129, 3), (.aload 0, 1), (.invokeinterface 14 126, 3), (.iload 3, 1), (.iastore, 1), (.aload 0, 1), (.dup, 1), (.invokeinterface 14 126, 3), (.iconst 1, 1), (.iadd, 1), (.multianewarray 14 126, 3), (.aload 0, 1), (.aload 0, 1), (.invokeinterface 14 126, 3), (.iconst 1, 1), (.isub, 1)] (pc' := 119) (S' := ([(0, .ref 206), (1, .int a1), (2, .int a2), (3, .int a3), (4, .int a4)], [.int (((rf_i (rf_i (rf_i (rf_i m6 289 (Int32.toNatClampNeg (m6.1 206 126)) a1) 290 (Int32.toNatClampNeg ((rf_i m6 289 (Int32.toNatClampNeg (m6.1 206 126)) a1).1 206 126)) a2) 291 (Int32.toNatClampNeg ((rf_i (rf_i m6 289 (Int32.toNatClampNeg (m6.1 206 126)) a1) 290 (Int32.toNatClampNeg ((rf_i m6 289 (Int32.toNatClampNeg (m6.1 206 126)) a1).1 206 126)) a2).1 206 126)) a3) 206 126 (((rf_i (rf_i (rf_i m6 289 (Int32.toNatClampNeg (m6.1 206 126)) a1) 290 (Int32.toNatClampNeg ((rf_i m6 289 (Int32.toNatClampNeg (m6.1 206 126)) a1).1 206 126)) a2) 291 (Int32.toNatClampNeg ((rf_i (rf_i m6 289 (Int32.toNatClampNeg (m6.1 206 126)) a1) 290 (Int32.toNatClampNeg ((rf_i m6 289 (Int32.toNatClampNeg (m6.1 206 126)) a1).1 206 126)) a2).1 206 126)) a3).1 206 126) + 1)).1 206 126) - 1), .ref 206], rf_MM w (rf_i (rf_i (rf_i (rf_i m6 289 (Int32.toNatClampNeg (m6.1 206 126)) a1) 290 (Int32.toNatClampNeg ((rf_i m6 289 (Int32.toNatClampNeg (m6.1 206 126)) a1).1 206 126)) a2) 291 (Int32.toNatClampNeg ((rf_i (rf_i m6 289 (Int32.toNatClampNeg (m6.1 206 126)) a1) 290 (Int32.toNatClampNeg ((rf_i m6 289 (Int32.toNatClampNeg (m6.1 206 126)) a1).1 206 126)) a2).1 206 126)) a3) 206 126 (((rf_i (rf_i (rf_i m6 289 (Int32.toNatClampNeg (m6.1 206 126)) a1) 290 (Int32.toNatClampNeg ((rf_i m6 289 (Int32.toNatClampNeg (m6.1 206 126)) a1).1 206 126)) a2) 291 (Int32.toNatClampNeg ((rf_i (rf_i m6 289 (Int32.toNatClampNeg (m6.1 206 126)) a1) 290 (Int32.toNatClampNeg ((rf_i m6 289 (Int32.toNatClampNeg (m6.1 206 126)) a1).1 206 126)) a2).1 206 126)) a3).1 206 126) + 1)))) (by decide +kernel) rfl (by exact ⟨(rf_in_of q7), (rf_in_of q8), (rf_in_of q9)⟩) ?_
              obtain ⟨y10, m10, hc10, hg⟩ := rf_b_some hg
              refine rf_callv C rf_fit0 j_X14_done (ci := 14) (As := [.int (((rf_i (rf_i (rf_i (rf_i m6 289 (Int32.toNatClampNeg (m6.1 206 126)) a1) 290 (Int32.toNatClampNeg ((rf_i m6 289 (Int32.toNatClampNeg (m6.1 206 126)) a1).1 206 126)) a2) 291 (Int32.toNatClampNeg ((rf_i (rf_i m6 289 (Int32.toNatClampNeg (m6.1 206 126)) a1) 290 (Int32.toNatClampNeg ((rf_i m6 289 (Int32.toNatClampNeg (m6.1 206 126)) a1).1 206 126)) a2).1 206 126)) a3) 206 126 (((rf_i (rf_i (rf_i m6 289 (Int32.toNatClampNeg (m6.1 206 126)) a1) 290 (Int32.toNatClampNeg ((rf_i m6 289 (Int32.toNatClampNeg (m6.1 206 126)) a1).1 206 126)) a2) 291 (Int32.toNatClampNeg ((rf_i (rf_i m6 289 (Int32.toNatClampNeg (m6.1 206 126)) a1) 290 (Int32.toNatClampNeg ((rf_i m6 289 (Int32.toNatClampNeg (m6.1 206 126)) a1).1 206 126)) a2).1 206 126)) a3).1 206 126) + 1)).1 206 126) - 1)]) (rest := []) mw_X14_done (c_X14_done hc10) (by decide) rfl (by decide) lk_14_357 rfl rfl (Nat.le_of_ble_eq_true rfl) (by decide +kernel) ?_
              show rf_V 5 (rf_sh w) K 0 0 122 ([(0, .ref 206), (1, .int a1), (2, .int a2), (3, .int a3), (4, .int a4)], [.int y10], rf_MM w m10)
              obtain rfl := Option.some.inj hg
              exact rf_iret C hE (by decide +kernel)
            · replace hg := (if_pos hc).symm.trans hg
              refine rf_seg C [(.aload 0, 1), (.iconst 3, 1)] (pc' := 68) (S' := ([(0, .ref 206), (1, .int a1), (2, .int a2), (3, .int a3), (4, .int a4)], [.int 3, .ref 206], rf_MM w m6)) (by decide +kernel) rfl trivial ?_
              obtain ⟨y11, m11, hc11, hg⟩ := rf_b_some hg
              refine rf_callv C rf_fit0 j_X14_refused (ci := 14) (As := [.int 3]) (rest := []) mw_X14_refused (c_X14_refused hc11) (by decide) rfl (by decide) lk_14_353 rfl rfl (Nat.le_of_ble_eq_true rfl) (by decide +kernel) ?_
              show rf_V 5 (rf_sh w) K 0 0 71 ([(0, .ref 206), (1, .int a1), (2, .int a2), (3, .int a3), (4, .int a4)], [.int y11], rf_MM w m11)
              obtain rfl := Option.some.inj hg
              exact rf_iret C hE (by decide +kernel)
          · replace hg := (if_pos hc).symm.trans hg
            refine rf_seg C [(.aload 0, 1), (.iconst 2, 1)] (pc' := 53) (S' := ([(0, .ref 206), (1, .int a1), (2, .int a2), (3, .int a3), (4, .int a4)], [.int 2, .ref 206], rf_MM w m6)) (by decide +kernel) rfl trivial ?_
            obtain ⟨y12, m12, hc12, hg⟩ := rf_b_some hg
            refine rf_callv C rf_fit0 j_X14_refused (ci := 14) (As := [.int 2]) (rest := []) mw_X14_refused (c_X14_refused hc12) (by decide) rfl (by decide) lk_14_353 rfl rfl (Nat.le_of_ble_eq_true rfl) (by decide +kernel) ?_
            show rf_V 5 (rf_sh w) K 0 0 56 ([(0, .ref 206), (1, .int a1), (2, .int a2), (3, .int a3), (4, .int a4)], [.int y12], rf_MM w m12)
            obtain rfl := Option.some.inj hg
            exact rf_iret C hE (by decide +kernel)
      · replace hg := (if_pos hc).symm.trans hg
        refine rf_seg C [(.aload 0, 1), (.iconst 1, 1)] (pc' := 28) (S' := ([(0, .ref 206), (1, .int a1), (2, .int a2), (3, .int a3), (4, .int a4)], [.int 1, .ref 206], rf_MM w m2)) (by decide +kernel) rfl trivial ?_
        obtain ⟨y13, m13, hc13, hg⟩ := rf_b_some hg
        refine rf_callv C rf_fit0 j_X14_refused (ci := 14) (As := [.int 1]) (rest := []) mw_X14_refused (c_X14_refused hc13) (by decide) rfl (by decide) lk_14_353 rfl rfl (Nat.le_of_ble_eq_true rfl) (by decide +kernel) ?_
        show rf_V 5 (rf_sh w) K 0 0 31 ([(0, .ref 206), (1, .int a1), (2, .int a2), (3, .int a3), (4, .int a4)], [.int y13], rf_MM w m13)
        obtain rfl := Option.some.inj hg
        exact rf_iret C hE (by decide +kernel)
-- X14_ownNorth
abbrev j_X14_ownNorth : rf_J := (14, yX14_ownNorth, cX14_ownNorth, 7, (some .int))
theorem mw_X14_ownNorth : rf_mv j_X14_ownNorth (rf_R 14) 2 := ⟨⟨rf_mem 90 (by decide +kernel), rf_mem 90 (by decide +kernel), rf_mem 0 (by decide +kernel), rf_mem 90 (by decide +kernel)⟩, by decide +kernel, by decide⟩
def g_X14_ownNorth_56 (w : rf_w) (rec8 : Int32 → Int32 → Int64 → Int32 → Int32 → rf_m → Option (Int32 × rf_m)) (a1 : Int32) (a2 : Int32) (a3 : Int64) (a5 : Int32) (a6 : Int32) (m : rf_m) : Option (Int32 × rf_m) := rec8 a1 a2 a3 a5 (a6 + 1) m
def g_X14_ownNorth_8_b (w : rf_w) (rec8 : Int32 → Int32 → Int64 → Int32 → Int32 → rf_m → Option (Int32 × rf_m)) (a1 : Int32) (a2 : Int32) (a3 : Int64) (a5 : Int32) (a6 : Int32) (m : rf_m) : Option (Int32 × rf_m) := (if (m.1 206 126) ≤ a6 then (if a5 = 0 then some ((-2), m) else rf_g (rf_nzl (Int32.toInt64 a5)) (some (Int64.toInt32 (a3 / (Int32.toInt64 a5)), m))) else rf_g (rf_in a6 20) ((if (m.1 289 (Int32.toNatClampNeg a6)) = a1 then rf_g (rf_in a6 20) ((if (m.1 290 (Int32.toNatClampNeg a6)) = a2 then rf_g (rf_in a6 20) (rf_vl (a3 + (Int32.toInt64 (m.1 291 (Int32.toNatClampNeg a6)))) fun x4 => g_X14_ownNorth_56 w rec8 a1 a2 x4 (a5 + 1) a6 m) else g_X14_ownNorth_56 w rec8 a1 a2 a3 a5 a6 m)) else g_X14_ownNorth_56 w rec8 a1 a2 a3 a5 a6 m)))
def g_X14_ownNorth_8 (w : rf_w) : Nat → Int32 → Int32 → Int64 → Int32 → Int32 → rf_m → Option (Int32 × rf_m)
  | 0, _, _, _, _, _, _ => none
  | n + 1, a1, a2, a3, a5, a6, m => g_X14_ownNorth_8_b w (g_X14_ownNorth_8 w n) a1 a2 a3 a5 a6 m
def g_X14_ownNorth (w : rf_w) (m : rf_m) (a1 : Int32) (a2 : Int32) : Option (Int32 × rf_m) := g_X14_ownNorth_8 w rf_fuel a1 a2 0 0 0 m
theorem s_X14_ownNorth_56 {w : rf_w} {K : rf_K} {r : Int32 × rf_m} (C : rf_Ctx 14 cX14_ownNorth 7 1 (rf_sh w) K) (hE : rf_End (some .int) K (rf_sh w) 0 0 (some (.int r.1)) (rf_MM w r.2)) {rec8 : Int32 → Int32 → Int64 → Int32 → Int32 → rf_m → Option (Int32 × rf_m)} (hr8 : ∀ (a1 : Int32) (a2 : Int32) (a3 : Int64) (a5 : Int32) (a6 : Int32) (m : rf_m), rec8 a1 a2 a3 a5 a6 m = some r → rf_V 7 (rf_sh w) K 0 0 8 ([(0, .ref 206), (1, .int a1), (2, .int a2), (3, .long a3), (5, .int a5), (6, .int a6)], [], rf_MM w m)) (a1 : Int32) (a2 : Int32) (a3 : Int64) (a5 : Int32) (a6 : Int32) (m : rf_m) (hg : g_X14_ownNorth_56 w rec8 a1 a2 a3 a5 a6 m = some r) : rf_V 7 (rf_sh w) K 0 0 56 ([(0, .ref 206), (1, .int a1), (2, .int a2), (3, .long a3), (5, .int a5), (6, .int a6)], [], rf_MM w m) := by
  unfold g_X14_ownNorth_56 at hg
  refine rf_seg C [(.iinc 6 1, 3)] (pc' := 59) (S' := ([(6, .int (a6 + 1)), (0, .ref 206), (1, .int a1), (2, .int a2), (3, .long a3), (5, .int a5)], [], rf_MM w m)) (by decide +kernel) rfl trivial ?_
  refine rf_goto C (-51) 8 (by decide +kernel) ?_
  refine rf_few [1, 2, 3, 4, 5, 0] rfl ?_
  exact hr8 a1 a2 a3 a5 (a6 + 1) m hg
theorem s_X14_ownNorth_8_b {w : rf_w} {K : rf_K} {r : Int32 × rf_m} (C : rf_Ctx 14 cX14_ownNorth 7 1 (rf_sh w) K) (hE : rf_End (some .int) K (rf_sh w) 0 0 (some (.int r.1)) (rf_MM w r.2)) {rec8 : Int32 → Int32 → Int64 → Int32 → Int32 → rf_m → Option (Int32 × rf_m)} (hr8 : ∀ (a1 : Int32) (a2 : Int32) (a3 : Int64) (a5 : Int32) (a6 : Int32) (m : rf_m), rec8 a1 a2 a3 a5 a6 m = some r → rf_V 7 (rf_sh w) K 0 0 8 ([(0, .ref 206), (1, .int a1), (2, .int a2), (3, .long a3), (5, .int a5), (6, .int a6)], [], rf_MM w m)) (a1 : Int32) (a2 : Int32) (a3 : Int64) (a5 : Int32) (a6 : Int32) (m : rf_m) (hg : g_X14_ownNorth_8_b w rec8 a1 a2 a3 a5 a6 m = some r) : rf_V 7 (rf_sh w) K 0 0 8 ([(0, .ref 206), (1, .int a1), (2, .int a2), (3, .long a3), (5, .int a5), (6, .int a6)], [], rf_MM w m) := by
  unfold g_X14_ownNorth_8_b at hg
  refine rf_seg C [(.iload 6, 2), (.aload 0, 1), (.invokeinterface 14 126, 3)] (pc' := 14) (S' := ([(0, .ref 206), (1, .int a1), (2, .int a2), (3, .long a3), (5, .int a5), (6, .int a6)], [.int (m.1 206 126), .int a6], rf_MM w m)) (by decide +kernel) rfl trivial ?_
  refine rf_icmp_ge C 48 62 (by decide +kernel) (fun hc => ?_) (fun hc => ?_)
  · replace hg := (if_pos hc).symm.trans hg
    refine rf_seg C [(.iload 5, 2)] (pc' := 64) (S' := ([(0, .ref 206), (1, .int a1), (2, .int a2), (3, .long a3), (5, .int a5), (6, .int a6)], [.int a5], rf_MM w m)) (by decide +kernel) rfl trivial ?_
    refine rf_if_ne C 8 72 (by decide +kernel) (fun hc => ?_) (fun hc => ?_)
    · replace hg := (if_neg hc).symm.trans hg
      obtain ⟨q0, hg⟩ := rf_g_some hg
      refine rf_seg C [(.lload 3, 1), (.iload 5, 2), (.i2l, 1), (.ldiv, 1), (.l2i, 1)] (pc' := 78) (S' := ([(0, .ref 206), (1, .int a1), (2, .int a2), (3, .long a3), (5, .int a5), (6, .int a6)], [.int (Int64.toInt32 (a3 / (Int32.toInt64 a5)))], rf_MM w m)) (by decide +kernel) rfl (rf_nzl_of q0) ?_
      obtain rfl := Option.some.inj hg
      exact rf_iret C hE (by decide +kernel)
    · replace hg := (if_pos hc).symm.trans hg
      refine rf_seg C [(.iconst (-2), 2)] (pc' := 69) (S' := ([(0, .ref 206), (1, .int a1), (2, .int a2), (3, .long a3), (5, .int a5), (6, .int a6)], [.int ((-2))], rf_MM w m)) (by decide +kernel) rfl trivial ?_
      refine rf_goto C 9 78 (by decide +kernel) ?_
      obtain rfl := Option.some.inj hg
      exact rf_iret C hE (by decide +kernel)
  · replace hg := (if_neg hc).symm.trans hg
    obtain ⟨q1, hg⟩ := rf_g_some hg
    refine rf_seg C [(.aload 0, 1), (.invokeinterface 14 127, 3), (.iload 6, 2), (.iaload, 1), (.iload 1, 1)] (pc' := 25) (S' := ([(0, .ref 206), (1, .int a1), (2, .int a2), (3, .long a3), (5, .int a5), (6, .int a6)], [.int a1, .int (m.1 289 (Int32.toNatClampNeg a6))], rf_MM w m)) (by decide +kernel) rfl (rf_in_of q1) ?_
    refine rf_icmp_ne C 31 56 (by decide +kernel) (fun hc => ?_) (fun hc => ?_)
    · replace hg := (if_neg hc).symm.trans hg
      refine rf_few [0, 1, 2, 3, 4, 5] rfl ?_
      exact s_X14_ownNorth_56 C hE hr8 a1 a2 a3 a5 a6 m hg
    · replace hg := (if_pos hc).symm.trans hg
      obtain ⟨q2, hg⟩ := rf_g_some hg
      refine rf_seg C [(.aload 0, 1), (.invokeinterface 14 128, 3), (.iload 6, 2), (.iaload, 1), (.iload 2, 1)] (pc' := 36) (S' := ([(0, .ref 206), (1, .int a1), (2, .int a2), (3, .long a3), (5, .int a5), (6, .int a6)], [.int a2, .int (m.1 290 (Int32.toNatClampNeg a6))], rf_MM w m)) (by decide +kernel) rfl (rf_in_of q2) ?_
      refine rf_icmp_eq C 6 42 (by decide +kernel) (fun hc => ?_) (fun hc => ?_)
      · replace hg := (if_pos hc).symm.trans hg
        obtain ⟨q3, hg⟩ := rf_g_some hg
        refine rf_seg C [(.lload 3, 1), (.aload 0, 1), (.invokeinterface 14 129, 3), (.iload 6, 2), (.iaload, 1), (.i2l, 1), (.ladd, 1)] (pc' := 52) (S' := ([(0, .ref 206), (1, .int a1), (2, .int a2), (3, .long a3), (5, .int a5), (6, .int a6)], [.long (a3 + (Int32.toInt64 (m.1 291 (Int32.toNatClampNeg a6))))], rf_MM w m)) (by decide +kernel) rfl (rf_in_of q3) ?_
        obtain ⟨x4, hx4, hg⟩ := rf_vl_some hg
        refine rf_vl_top hx4 ?_
        refine rf_seg C [(.lstore 3, 1), (.iinc 5 1, 3)] (pc' := 56) (S' := ([(5, .int (a5 + 1)), (3, .long x4), (0, .ref 206), (1, .int a1), (2, .int a2), (6, .int a6)], [], rf_MM w m)) (by decide +kernel) rfl trivial ?_
        refine rf_few [2, 3, 4, 1, 0, 5] rfl ?_
        exact s_X14_ownNorth_56 C hE hr8 a1 a2 x4 (a5 + 1) a6 m hg
      · replace hg := (if_neg hc).symm.trans hg
        refine rf_goto C 17 56 (by decide +kernel) ?_
        refine rf_few [0, 1, 2, 3, 4, 5] rfl ?_
        exact s_X14_ownNorth_56 C hE hr8 a1 a2 a3 a5 a6 m hg
theorem s_X14_ownNorth_8 {w : rf_w} {K : rf_K} {r : Int32 × rf_m} (C : rf_Ctx 14 cX14_ownNorth 7 1 (rf_sh w) K) (hE : rf_End (some .int) K (rf_sh w) 0 0 (some (.int r.1)) (rf_MM w r.2)) (n : Nat) : ∀ (a1 : Int32) (a2 : Int32) (a3 : Int64) (a5 : Int32) (a6 : Int32) (m : rf_m), g_X14_ownNorth_8 w n a1 a2 a3 a5 a6 m = some r → rf_V 7 (rf_sh w) K 0 0 8 ([(0, .ref 206), (1, .int a1), (2, .int a2), (3, .long a3), (5, .int a5), (6, .int a6)], [], rf_MM w m) := by
  induction n with
  | zero => intro a1 a2 a3 a5 a6 m hg; cases hg
  | succ n ih => intro a1 a2 a3 a5 a6 m hg; exact s_X14_ownNorth_8_b C hE ih a1 a2 a3 a5 a6 m hg
theorem c_X14_ownNorth {w : rf_w} {m : rf_m} {a1 : Int32} {a2 : Int32} {r : Int32 × rf_m} (hg : g_X14_ownNorth w m a1 a2 = some r) : rf_Con j_X14_ownNorth 1 (rf_sh w) [.ref 206, .int a1, .int a2] (rf_MM w m) (some (.int r.1)) (rf_MM w r.2) := by
  refine rf_con j_X14_ownNorth 1 ⟨by decide +kernel, rfl, Nat.le_of_ble_eq_true rfl⟩ (fun K C hE => ?_)
  unfold g_X14_ownNorth at hg
  show rf_V 7 (rf_sh w) K 0 0 0 ([(0, .ref 206), (1, .int a1), (2, .int a2)], [], rf_MM w m)
  refine rf_seg C [(.goto_w 0, 1), (.lstore 3, 1), (.iconst 0, 1), (.istore 5, 2), (.iconst 0, 1), (.istore 6, 2)] (pc' := 8) (S' := ([(6, .int 0), (5, .int 0), (3, .long 0), (0, .ref 206), (1, .int a1), (2, .int a2)], [], rf_MM w m)) (by decide +kernel) rfl trivial ?_
  refine rf_few [3, 4, 5, 2, 1, 0] rfl ?_
  exact s_X14_ownNorth_8 C hE rf_fuel a1 a2 0 0 0 m hg
-- X14_rounded
abbrev j_X14_rounded : rf_J := (14, yX14_rounded, cX14_rounded, 1, (some .int))
theorem mw_X14_rounded : rf_ms j_X14_rounded 1 := ⟨⟨rf_mem 90 (by decide +kernel), rf_mem 0 (by decide +kernel), rf_mem 90 (by decide +kernel)⟩, by decide +kernel, by decide⟩
def g_X14_rounded (w : rf_w) (m : rf_m) (a0 : Int32) : Option (Int32 × rf_m) := (if (0 : Int32) ≤ a0 then (if a0 < 12960000 then some (a0, m) else some (a0 - 12960000, m)) else some (a0 + 12960000, m))
theorem c_X14_rounded {w : rf_w} {m : rf_m} {a0 : Int32} {r : Int32 × rf_m} (hg : g_X14_rounded w m a0 = some r) : rf_Con j_X14_rounded 1 (rf_sh w) [.int a0] (rf_MM w m) (some (.int r.1)) (rf_MM w r.2) := by
  refine rf_con j_X14_rounded 1 ⟨by decide +kernel, rfl, Nat.le_of_ble_eq_true rfl⟩ (fun K C hE => ?_)
  unfold g_X14_rounded at hg
  show rf_V 1 (rf_sh w) K 0 0 0 ([(0, .int a0)], [], rf_MM w m)
  refine rf_seg C [(.iload 0, 1)] (pc' := 1) (S' := ([(0, .int a0)], [.int a0], rf_MM w m)) (by decide +kernel) rfl trivial ?_
  refine rf_if_ge C 11 12 (by decide +kernel) (fun hc => ?_) (fun hc => ?_)
  · replace hg := (if_pos hc).symm.trans hg
    refine rf_seg C [(.iload 0, 1), (.iconst 12960000, 3)] (pc' := 16) (S' := ([(0, .int a0)], [.int 12960000, .int a0], rf_MM w m)) (by decide +kernel) rfl trivial ?_
    refine rf_icmp_lt C 11 27 (by decide +kernel) (fun hc => ?_) (fun hc => ?_)
    · replace hg := (if_pos hc).symm.trans hg
      refine rf_seg C [(.iload 0, 1)] (pc' := 28) (S' := ([(0, .int a0)], [.int a0], rf_MM w m)) (by decide +kernel) rfl trivial ?_
      obtain rfl := Option.some.inj hg
      exact rf_iret C hE (by decide +kernel)
    · replace hg := (if_neg hc).symm.trans hg
      refine rf_seg C [(.iload 0, 1), (.iconst 12960000, 3), (.isub, 1)] (pc' := 24) (S' := ([(0, .int a0)], [.int (a0 - 12960000)], rf_MM w m)) (by decide +kernel) rfl trivial ?_
      refine rf_goto C 4 28 (by decide +kernel) ?_
      obtain rfl := Option.some.inj hg
      exact rf_iret C hE (by decide +kernel)
  · replace hg := (if_neg hc).symm.trans hg
    refine rf_seg C [(.iload 0, 1), (.iconst 12960000, 3), (.iadd, 1)] (pc' := 9) (S' := ([(0, .int a0)], [.int (a0 + 12960000)], rf_MM w m)) (by decide +kernel) rfl trivial ?_
    refine rf_goto C 19 28 (by decide +kernel) ?_
    obtain rfl := Option.some.inj hg
    exact rf_iret C hE (by decide +kernel)
-- X14_offers
abbrev j_X14_offers : rf_J := (14, yX14_offers, cX14_offers, 8, none)
theorem mw_X14_offers : rf_mv j_X14_offers (rf_R 14) 5 := ⟨⟨rf_mem 91 (by decide +kernel), rf_mem 91 (by decide +kernel), rf_mem 0 (by decide +kernel), rf_mem 91 (by decide +kernel)⟩, by decide +kernel, by decide⟩
def g_X14_offers_80 (w : rf_w) (a3 : Int32) (a4 : Int32) (a5 : Int32) (a6 : Int32) (a7 : Int32) (m : rf_m) : Option (rf_m) := rf_g (rf_in a7 900) (rf_g (rf_in a7 900) ((if a6 = 0 then rf_g (rf_in a7 900) (some (rf_i (rf_i (rf_i m 295 (Int32.toNatClampNeg a7) a3) 296 (Int32.toNatClampNeg a7) a4) 297 (Int32.toNatClampNeg a7) a5)) else rf_b (g_X14_rounded w (rf_i (rf_i m 295 (Int32.toNatClampNeg a7) a3) 296 (Int32.toNatClampNeg a7) a4) (a5 + 6480000)) fun y3 m3 => rf_g (rf_in a7 900) (some (rf_i m3 297 (Int32.toNatClampNeg a7) y3)))))
def g_X14_offers_32 (w : rf_w) (a3 : Int32) (a4 : Int32) (a5 : Int32) (a6 : Int32) (s0 : Int32) (m : rf_m) : Option (rf_m) := rf_g (rf_in s0 900) ((if (m.1 296 (Int32.toNatClampNeg s0)) = ((-1)) then g_X14_offers_80 w a3 a4 a5 a6 s0 m else rf_g (rf_in s0 900) ((if (m.1 295 (Int32.toNatClampNeg s0)) < a3 then some m else rf_g (rf_in s0 900) ((if (m.1 295 (Int32.toNatClampNeg s0)) = a3 then rf_g (rf_in s0 900) ((if a4 < (m.1 296 (Int32.toNatClampNeg s0)) then g_X14_offers_80 w a3 a4 a5 a6 s0 m else some m)) else g_X14_offers_80 w a3 a4 a5 a6 s0 m))))))
def g_X14_offers_10 (w : rf_w) (a1 : Int32) (a2 : Int32) (a3 : Int32) (a4 : Int32) (a5 : Int32) (s0 : Int32) (m : rf_m) : Option (rf_m) := (if s0 = 0 then g_X14_offers_32 w a3 a4 a5 s0 ((30 * a1) + a2) m else g_X14_offers_32 w a3 a4 a5 s0 ((30 * a2) + a1) m)
def g_X14_offers (w : rf_w) (m : rf_m) (a1 : Int32) (a2 : Int32) (a3 : Int32) (a4 : Int32) (a5 : Int32) : Option (rf_m) := (if a1 ≤ a2 then g_X14_offers_10 w a1 a2 a3 a4 a5 0 m else g_X14_offers_10 w a1 a2 a3 a4 a5 1 m)
theorem s_X14_offers_80 {w : rf_w} {K : rf_K} {r : rf_m} (C : rf_Ctx 14 cX14_offers 8 2 (rf_sh w) K) (hE : rf_End none K (rf_sh w) 0 0 none (rf_MM w r)) (a3 : Int32) (a4 : Int32) (a5 : Int32) (a6 : Int32) (a7 : Int32) (m : rf_m) (hg : g_X14_offers_80 w a3 a4 a5 a6 a7 m = some r) : rf_V 8 (rf_sh w) K 0 0 80 ([(0, .ref 206), (3, .int a3), (4, .int a4), (5, .int a5), (6, .int a6), (7, .int a7)], [], rf_MM w m) := by
  unfold g_X14_offers_80 at hg
  obtain ⟨q0, hg⟩ := rf_g_some hg
  obtain ⟨q1, hg⟩ := rf_g_some hg
  refine rf_seg C [(.aload 0, 1), (.invokeinterface 14 133, 3), (.iload 7, 2), (.iload 3, 1), (.iastore, 1), (.aload 0, 1), (.invokeinterface 14 134, 3), (.iload 7, 2), (.iload 4, 2), (.iastore, 1), (.aload 0, 1), (.invokeinterface 14 135, 3), (.iload 7, 2), (.iload 6, 2)] (pc' := 105) (S' := ([(0, .ref 206), (3, .int a3), (4, .int a4), (5, .int a5), (6, .int a6), (7, .int a7)], [.int a6, .int a7, .ref 297], rf_MM w (rf_i (rf_i m 295 (Int32.toNatClampNeg a7) a3) 296 (Int32.toNatClampNeg a7) a4))) (by decide +kernel) rfl (by exact ⟨(rf_in_of q0), (rf_in_of q1)⟩) ?_
  refine rf_if_eq C 15 120 (by decide +kernel) (fun hc => ?_) (fun hc => ?_)
  · replace hg := (if_pos hc).symm.trans hg
    obtain ⟨q2, hg⟩ := rf_g_some hg
    refine rf_seg C [(.iload 5, 2), (.iastore, 1)] (pc' := 123) (S' := ([(0, .ref 206), (3, .int a3), (4, .int a4), (5, .int a5), (6, .int a6), (7, .int a7)], [], rf_MM w (rf_i (rf_i (rf_i m 295 (Int32.toNatClampNeg a7) a3) 296 (Int32.toNatClampNeg a7) a4) 297 (Int32.toNatClampNeg a7) a5))) (by decide +kernel) rfl (rf_in_of q2) ?_
    obtain rfl := Option.some.inj hg
    exact rf_vret C hE (by decide +kernel)
  · replace hg := (if_neg hc).symm.trans hg
    refine rf_seg C [(.iload 5, 2), (.iconst 6480000, 3), (.iadd, 1)] (pc' := 114) (S' := ([(0, .ref 206), (3, .int a3), (4, .int a4), (5, .int a5), (6, .int a6), (7, .int a7)], [.int (a5 + 6480000), .int a7, .ref 297], rf_MM w (rf_i (rf_i m 295 (Int32.toNatClampNeg a7) a3) 296 (Int32.toNatClampNeg a7) a4))) (by decide +kernel) rfl trivial ?_
    obtain ⟨y3, m3, hc3, hg⟩ := rf_b_some hg
    refine rf_calls C rf_fit0 j_X14_rounded (As := [.int (a5 + 6480000)]) (rest := [.int a7, .ref 297]) mw_X14_rounded (c_X14_rounded hc3) (by decide) lk_14_877 rfl rfl (Nat.le_of_ble_eq_true rfl) (by decide +kernel) ?_
    show rf_V 8 (rf_sh w) K 0 0 117 ([(0, .ref 206), (3, .int a3), (4, .int a4), (5, .int a5), (6, .int a6), (7, .int a7)], [.int y3, .int a7, .ref 297], rf_MM w m3)
    refine rf_goto C 5 122 (by decide +kernel) ?_
    obtain ⟨q4, hg⟩ := rf_g_some hg
    refine rf_seg C [(.iastore, 1)] (pc' := 123) (S' := ([(0, .ref 206), (3, .int a3), (4, .int a4), (5, .int a5), (6, .int a6), (7, .int a7)], [], rf_MM w (rf_i m3 297 (Int32.toNatClampNeg a7) y3))) (by decide +kernel) rfl (rf_in_of q4) ?_
    obtain rfl := Option.some.inj hg
    exact rf_vret C hE (by decide +kernel)
theorem s_X14_offers_32 {w : rf_w} {K : rf_K} {r : rf_m} (C : rf_Ctx 14 cX14_offers 8 2 (rf_sh w) K) (hE : rf_End none K (rf_sh w) 0 0 none (rf_MM w r)) (a3 : Int32) (a4 : Int32) (a5 : Int32) (a6 : Int32) (s0 : Int32) (m : rf_m) (hg : g_X14_offers_32 w a3 a4 a5 a6 s0 m = some r) : rf_V 8 (rf_sh w) K 0 0 32 ([(0, .ref 206), (3, .int a3), (4, .int a4), (5, .int a5), (6, .int a6)], [.int s0], rf_MM w m) := by
  unfold g_X14_offers_32 at hg
  obtain ⟨q0, hg⟩ := rf_g_some hg
  refine rf_seg C [(.istore 7, 2), (.aload 0, 1), (.invokeinterface 14 134, 3), (.iload 7, 2), (.iaload, 1), (.iconst (-1), 1)] (pc' := 42) (S' := ([(7, .int s0), (0, .ref 206), (3, .int a3), (4, .int a4), (5, .int a5), (6, .int a6)], [.int ((-1)), .int (m.1 296 (Int32.toNatClampNeg s0))], rf_MM w m)) (by decide +kernel) rfl (rf_in_of q0) ?_
  refine rf_icmp_eq C 38 80 (by decide +kernel) (fun hc => ?_) (fun hc => ?_)
  · replace hg := (if_pos hc).symm.trans hg
    refine rf_few [1, 2, 3, 4, 5, 0] rfl ?_
    exact s_X14_offers_80 C hE a3 a4 a5 a6 s0 m hg
  · replace hg := (if_neg hc).symm.trans hg
    obtain ⟨q1, hg⟩ := rf_g_some hg
    refine rf_seg C [(.aload 0, 1), (.invokeinterface 14 133, 3), (.iload 7, 2), (.iaload, 1), (.iload 3, 1)] (pc' := 53) (S' := ([(7, .int s0), (0, .ref 206), (3, .int a3), (4, .int a4), (5, .int a5), (6, .int a6)], [.int a3, .int (m.1 295 (Int32.toNatClampNeg s0))], rf_MM w m)) (by decide +kernel) rfl (rf_in_of q1) ?_
    refine rf_icmp_lt C 26 79 (by decide +kernel) (fun hc => ?_) (fun hc => ?_)
    · replace hg := (if_pos hc).symm.trans hg
      obtain rfl := Option.some.inj hg
      exact rf_vret C hE (by decide +kernel)
    · replace hg := (if_neg hc).symm.trans hg
      obtain ⟨q2, hg⟩ := rf_g_some hg
      refine rf_seg C [(.aload 0, 1), (.invokeinterface 14 133, 3), (.iload 7, 2), (.iaload, 1), (.iload 3, 1)] (pc' := 64) (S' := ([(7, .int s0), (0, .ref 206), (3, .int a3), (4, .int a4), (5, .int a5), (6, .int a6)], [.int a3, .int (m.1 295 (Int32.toNatClampNeg s0))], rf_MM w m)) (by decide +kernel) rfl (rf_in_of q2) ?_
      refine rf_icmp_ne C 16 80 (by decide +kernel) (fun hc => ?_) (fun hc => ?_)
      · replace hg := (if_neg hc).symm.trans hg
        refine rf_few [1, 2, 3, 4, 5, 0] rfl ?_
        exact s_X14_offers_80 C hE a3 a4 a5 a6 s0 m hg
      · replace hg := (if_pos hc).symm.trans hg
        obtain ⟨q3, hg⟩ := rf_g_some hg
        refine rf_seg C [(.aload 0, 1), (.invokeinterface 14 134, 3), (.iload 7, 2), (.iaload, 1), (.iload 4, 2)] (pc' := 76) (S' := ([(7, .int s0), (0, .ref 206), (3, .int a3), (4, .int a4), (5, .int a5), (6, .int a6)], [.int a4, .int (m.1 296 (Int32.toNatClampNeg s0))], rf_MM w m)) (by decide +kernel) rfl (rf_in_of q3) ?_
        refine rf_icmp_gt C 4 80 (by decide +kernel) (fun hc => ?_) (fun hc => ?_)
        · replace hg := (if_pos hc).symm.trans hg
          refine rf_few [1, 2, 3, 4, 5, 0] rfl ?_
          exact s_X14_offers_80 C hE a3 a4 a5 a6 s0 m hg
        · replace hg := (if_neg hc).symm.trans hg
          obtain rfl := Option.some.inj hg
          exact rf_vret C hE (by decide +kernel)
theorem s_X14_offers_10 {w : rf_w} {K : rf_K} {r : rf_m} (C : rf_Ctx 14 cX14_offers 8 2 (rf_sh w) K) (hE : rf_End none K (rf_sh w) 0 0 none (rf_MM w r)) (a1 : Int32) (a2 : Int32) (a3 : Int32) (a4 : Int32) (a5 : Int32) (s0 : Int32) (m : rf_m) (hg : g_X14_offers_10 w a1 a2 a3 a4 a5 s0 m = some r) : rf_V 8 (rf_sh w) K 0 0 10 ([(0, .ref 206), (1, .int a1), (2, .int a2), (3, .int a3), (4, .int a4), (5, .int a5)], [.int s0], rf_MM w m) := by
  unfold g_X14_offers_10 at hg
  refine rf_seg C [(.istore 6, 2), (.iload 6, 2)] (pc' := 14) (S' := ([(6, .int s0), (0, .ref 206), (1, .int a1), (2, .int a2), (3, .int a3), (4, .int a4), (5, .int a5)], [.int s0], rf_MM w m)) (by decide +kernel) rfl trivial ?_
  refine rf_if_eq C 12 26 (by decide +kernel) (fun hc => ?_) (fun hc => ?_)
  · replace hg := (if_pos hc).symm.trans hg
    refine rf_seg C [(.iconst 30, 2), (.iload 1, 1), (.imul, 1), (.iload 2, 1), (.iadd, 1)] (pc' := 32) (S' := ([(6, .int s0), (0, .ref 206), (1, .int a1), (2, .int a2), (3, .int a3), (4, .int a4), (5, .int a5)], [.int ((30 * a1) + a2)], rf_MM w m)) (by decide +kernel) rfl trivial ?_
    refine rf_few [1, 4, 5, 6, 0] rfl ?_
    exact s_X14_offers_32 C hE a3 a4 a5 s0 ((30 * a1) + a2) m hg
  · replace hg := (if_neg hc).symm.trans hg
    refine rf_seg C [(.iconst 30, 2), (.iload 2, 1), (.imul, 1), (.iload 1, 1), (.iadd, 1)] (pc' := 23) (S' := ([(6, .int s0), (0, .ref 206), (1, .int a1), (2, .int a2), (3, .int a3), (4, .int a4), (5, .int a5)], [.int ((30 * a2) + a1)], rf_MM w m)) (by decide +kernel) rfl trivial ?_
    refine rf_goto C 9 32 (by decide +kernel) ?_
    refine rf_few [1, 4, 5, 6, 0] rfl ?_
    exact s_X14_offers_32 C hE a3 a4 a5 s0 ((30 * a2) + a1) m hg
theorem c_X14_offers {w : rf_w} {m : rf_m} {a1 : Int32} {a2 : Int32} {a3 : Int32} {a4 : Int32} {a5 : Int32} {r : rf_m} (hg : g_X14_offers w m a1 a2 a3 a4 a5 = some r) : rf_Con j_X14_offers 2 (rf_sh w) [.ref 206, .int a1, .int a2, .int a3, .int a4, .int a5] (rf_MM w m) none (rf_MM w r) := by
  refine rf_con j_X14_offers 2 ⟨by decide +kernel, rfl, Nat.le_of_ble_eq_true rfl⟩ (fun K C hE => ?_)
  unfold g_X14_offers at hg
  show rf_V 8 (rf_sh w) K 0 0 0 ([(0, .ref 206), (1, .int a1), (2, .int a2), (3, .int a3), (4, .int a4), (5, .int a5)], [], rf_MM w m)
  refine rf_seg C [(.iload 1, 1), (.iload 2, 1)] (pc' := 2) (S' := ([(0, .ref 206), (1, .int a1), (2, .int a2), (3, .int a3), (4, .int a4), (5, .int a5)], [.int a2, .int a1], rf_MM w m)) (by decide +kernel) rfl trivial ?_
  refine rf_icmp_le C 7 9 (by decide +kernel) (fun hc => ?_) (fun hc => ?_)
  · replace hg := (if_pos hc).symm.trans hg
    refine rf_seg C [(.iconst 0, 1)] (pc' := 10) (S' := ([(0, .ref 206), (1, .int a1), (2, .int a2), (3, .int a3), (4, .int a4), (5, .int a5)], [.int 0], rf_MM w m)) (by decide +kernel) rfl trivial ?_
    refine rf_few [0, 1, 2, 3, 4, 5] rfl ?_
    exact s_X14_offers_10 C hE a1 a2 a3 a4 a5 0 m hg
  · replace hg := (if_neg hc).symm.trans hg
    refine rf_seg C [(.iconst 1, 1)] (pc' := 6) (S' := ([(0, .ref 206), (1, .int a1), (2, .int a2), (3, .int a3), (4, .int a4), (5, .int a5)], [.int 1], rf_MM w m)) (by decide +kernel) rfl trivial ?_
    refine rf_goto C 4 10 (by decide +kernel) ?_
    refine rf_few [0, 1, 2, 3, 4, 5] rfl ?_
    exact s_X14_offers_10 C hE a1 a2 a3 a4 a5 1 m hg
-- X14_tells
abbrev j_X14_tells : rf_J := (14, yX14_tells, cX14_tells, 6, none)
theorem mw_X14_tells : rf_mv j_X14_tells (rf_R 14) 5 := ⟨⟨rf_mem 91 (by decide +kernel), rf_mem 91 (by decide +kernel), rf_mem 0 (by decide +kernel), rf_mem 91 (by decide +kernel)⟩, by decide +kernel, by decide⟩
def g_X14_tells (w : rf_w) (m : rf_m) (a1 : Int32) (a2 : Int32) (a3 : Int32) (a4 : Int32) (a5 : Int32) : Option (rf_m) := rf_g (rf_in ((30 * a1) + a2) 900) (rf_g (rf_in ((30 * a2) + a1) 900) (rf_g (rf_in ((30 * a1) + a2) 900) (rf_g (rf_in ((30 * a2) + a1) 900) (rf_g (rf_in ((30 * a1) + a2) 900) (rf_b (g_X14_rounded w (rf_i (rf_i (rf_i (rf_i (rf_i m 293 (Int32.toNatClampNeg ((30 * a1) + a2)) a3) 293 (Int32.toNatClampNeg ((30 * a2) + a1)) a3) 294 (Int32.toNatClampNeg ((30 * a1) + a2)) a4) 294 (Int32.toNatClampNeg ((30 * a2) + a1)) a4) 292 (Int32.toNatClampNeg ((30 * a1) + a2)) a5) (a5 + 6480000)) fun y5 m5 => rf_g (rf_in ((30 * a2) + a1) 900) (some (rf_i m5 292 (Int32.toNatClampNeg ((30 * a2) + a1)) y5)))))))
theorem c_X14_tells {w : rf_w} {m : rf_m} {a1 : Int32} {a2 : Int32} {a3 : Int32} {a4 : Int32} {a5 : Int32} {r : rf_m} (hg : g_X14_tells w m a1 a2 a3 a4 a5 = some r) : rf_Con j_X14_tells 2 (rf_sh w) [.ref 206, .int a1, .int a2, .int a3, .int a4, .int a5] (rf_MM w m) none (rf_MM w r) := by
  refine rf_con j_X14_tells 2 ⟨by decide +kernel, rfl, Nat.le_of_ble_eq_true rfl⟩ (fun K C hE => ?_)
  unfold g_X14_tells at hg
  show rf_V 6 (rf_sh w) K 0 0 0 ([(0, .ref 206), (1, .int a1), (2, .int a2), (3, .int a3), (4, .int a4), (5, .int a5)], [], rf_MM w m)
  obtain ⟨q0, hg⟩ := rf_g_some hg
  obtain ⟨q1, hg⟩ := rf_g_some hg
  obtain ⟨q2, hg⟩ := rf_g_some hg
  obtain ⟨q3, hg⟩ := rf_g_some hg
  obtain ⟨q4, hg⟩ := rf_g_some hg
  refine rf_seg C [(.aload 0, 1), (.invokeinterface 14 131, 3), (.iconst 30, 2), (.iload 1, 1), (.imul, 1), (.iload 2, 1), (.iadd, 1), (.iload 3, 1), (.iastore, 1), (.aload 0, 1), (.invokeinterface 14 131, 3), (.iconst 30, 2), (.iload 2, 1), (.imul, 1), (.iload 1, 1), (.iadd, 1), (.iload 3, 1), (.iastore, 1), (.aload 0, 1), (.invokeinterface 14 132, 3), (.iconst 30, 2), (.iload 1, 1), (.imul, 1), (.iload 2, 1), (.iadd, 1), (.iload 4, 2), (.iastore, 1), (.aload 0, 1), (.invokeinterface 14 132, 3), (.iconst 30, 2), (.iload 2, 1), (.imul, 1), (.iload 1, 1), (.iadd, 1), (.iload 4, 2), (.iastore, 1), (.aload 0, 1), (.invokeinterface 14 130, 3), (.iconst 30, 2), (.iload 1, 1), (.imul, 1), (.iload 2, 1), (.iadd, 1), (.iload 5, 2), (.iastore, 1), (.aload 0, 1), (.invokeinterface 14 130, 3), (.iconst 30, 2), (.iload 2, 1), (.imul, 1), (.iload 1, 1), (.iadd, 1), (.iload 5, 2), (.iconst 6480000, 3), (.iadd, 1)] (pc' := 79) (S' := ([(0, .ref 206), (1, .int a1), (2, .int a2), (3, .int a3), (4, .int a4), (5, .int a5)], [.int (a5 + 6480000), .int ((30 * a2) + a1), .ref 292], rf_MM w (rf_i (rf_i (rf_i (rf_i (rf_i m 293 (Int32.toNatClampNeg ((30 * a1) + a2)) a3) 293 (Int32.toNatClampNeg ((30 * a2) + a1)) a3) 294 (Int32.toNatClampNeg ((30 * a1) + a2)) a4) 294 (Int32.toNatClampNeg ((30 * a2) + a1)) a4) 292 (Int32.toNatClampNeg ((30 * a1) + a2)) a5))) (by decide +kernel) rfl (by exact ⟨(rf_in_of q0), (rf_in_of q1), (rf_in_of q2), (rf_in_of q3), (rf_in_of q4)⟩) ?_
  obtain ⟨y5, m5, hc5, hg⟩ := rf_b_some hg
  refine rf_calls C rf_fit0 j_X14_rounded (As := [.int (a5 + 6480000)]) (rest := [.int ((30 * a2) + a1), .ref 292]) mw_X14_rounded (c_X14_rounded hc5) (by decide) lk_14_877 rfl rfl (Nat.le_of_ble_eq_true rfl) (by decide +kernel) ?_
  show rf_V 6 (rf_sh w) K 0 0 82 ([(0, .ref 206), (1, .int a1), (2, .int a2), (3, .int a3), (4, .int a4), (5, .int a5)], [.int y5, .int ((30 * a2) + a1), .ref 292], rf_MM w m5)
  obtain ⟨q6, hg⟩ := rf_g_some hg
  refine rf_seg C [(.iastore, 1)] (pc' := 83) (S' := ([(0, .ref 206), (1, .int a1), (2, .int a2), (3, .int a3), (4, .int a4), (5, .int a5)], [], rf_MM w (rf_i m5 292 (Int32.toNatClampNeg ((30 * a2) + a1)) y5))) (by decide +kernel) rfl (rf_in_of q6) ?_
  obtain rfl := Option.some.inj hg
  exact rf_vret C hE (by decide +kernel)
-- X14_norths
abbrev j_X14_norths : rf_J := (14, yX14_norths, cX14_norths, 8, none)
theorem mw_X14_norths : rf_mv j_X14_norths (rf_R 14) 0 := ⟨⟨rf_mem 90 (by decide +kernel), rf_mem 90 (by decide +kernel), rf_mem 0 (by decide +kernel), rf_memi 90 14 rfl⟩, by decide +kernel, by decide⟩
def g_X14_norths_539 (w : rf_w) (rec159 : Int32 → Int32 → rf_m → Option (rf_m)) (rec381 : Int32 → Int32 → Int32 → rf_m → Option (rf_m)) (rec394 : Int32 → Int32 → Int32 → Int32 → rf_m → Option (rf_m)) (a1 : Int32) (a2 : Int32) (a3 : Int32) (a4 : Int32) (m : rf_m) : Option (rf_m) := rec394 a1 a2 a3 (a4 + 1) m
def g_X14_norths_511 (w : rf_w) (rec159 : Int32 → Int32 → rf_m → Option (rf_m)) (rec381 : Int32 → Int32 → Int32 → rf_m → Option (rf_m)) (rec394 : Int32 → Int32 → Int32 → Int32 → rf_m → Option (rf_m)) (rec434 : Int32 → Int32 → Int32 → Int32 → Int32 → Int32 → Int32 → rf_m → Option (rf_m)) (a1 : Int32) (a2 : Int32) (a3 : Int32) (a4 : Int32) (a5 : Int32) (a7 : Int32) (s0 : Int32) (s1 : Int32) (m : rf_m) : Option (rf_m) := rec434 a1 a2 a3 a4 a5 (s0 + s1) (a7 + 1) m
def g_X14_norths_510 (w : rf_w) (rec159 : Int32 → Int32 → rf_m → Option (rf_m)) (rec381 : Int32 → Int32 → Int32 → rf_m → Option (rf_m)) (rec394 : Int32 → Int32 → Int32 → Int32 → rf_m → Option (rf_m)) (rec434 : Int32 → Int32 → Int32 → Int32 → Int32 → Int32 → Int32 → rf_m → Option (rf_m)) (a1 : Int32) (a2 : Int32) (a3 : Int32) (a4 : Int32) (a5 : Int32) (a7 : Int32) (s0 : Int32) (m : rf_m) : Option (rf_m) := g_X14_norths_511 w rec159 rec381 rec394 rec434 a1 a2 a3 a4 a5 a7 s0 0 m
def g_X14_norths_506 (w : rf_w) (rec159 : Int32 → Int32 → rf_m → Option (rf_m)) (rec381 : Int32 → Int32 → Int32 → rf_m → Option (rf_m)) (rec394 : Int32 → Int32 → Int32 → Int32 → rf_m → Option (rf_m)) (rec434 : Int32 → Int32 → Int32 → Int32 → Int32 → Int32 → Int32 → rf_m → Option (rf_m)) (a1 : Int32) (a2 : Int32) (a3 : Int32) (a4 : Int32) (a5 : Int32) (a7 : Int32) (s0 : Int32) (m : rf_m) : Option (rf_m) := g_X14_norths_511 w rec159 rec381 rec394 rec434 a1 a2 a3 a4 a5 a7 s0 1 m
def g_X14_norths_434_b (w : rf_w) (rec159 : Int32 → Int32 → rf_m → Option (rf_m)) (rec381 : Int32 → Int32 → Int32 → rf_m → Option (rf_m)) (rec394 : Int32 → Int32 → Int32 → Int32 → rf_m → Option (rf_m)) (rec434 : Int32 → Int32 → Int32 → Int32 → Int32 → Int32 → Int32 → rf_m → Option (rf_m)) (a1 : Int32) (a2 : Int32) (a3 : Int32) (a4 : Int32) (a5 : Int32) (a6 : Int32) (a7 : Int32) (m : rf_m) : Option (rf_m) := (if 900 ≤ a7 then rf_g (rf_in a5 900) (rf_bv (g_X14_tells w m a3 a4 (a2 + 1) a6 (m.1 297 (Int32.toNatClampNeg a5))) fun m1 => g_X14_norths_539 w rec159 rec381 rec394 a1 a2 a3 a4 m1) else rf_g (rf_in a7 900) ((if (m.1 296 (Int32.toNatClampNeg a7)) = ((-1)) then g_X14_norths_510 w rec159 rec381 rec394 rec434 a1 a2 a3 a4 a5 a7 a6 m else rf_g (rf_in a7 900) (rf_g (rf_in a5 900) ((if (m.1 295 (Int32.toNatClampNeg a7)) < (m.1 295 (Int32.toNatClampNeg a5)) then g_X14_norths_506 w rec159 rec381 rec394 rec434 a1 a2 a3 a4 a5 a7 a6 m else rf_g (rf_in a7 900) (rf_g (rf_in a5 900) ((if (m.1 295 (Int32.toNatClampNeg a7)) = (m.1 295 (Int32.toNatClampNeg a5)) then rf_g (rf_in a7 900) (rf_g (rf_in a5 900) ((if (m.1 296 (Int32.toNatClampNeg a5)) ≤ (m.1 296 (Int32.toNatClampNeg a7)) then g_X14_norths_510 w rec159 rec381 rec394 rec434 a1 a2 a3 a4 a5 a7 a6 m else g_X14_norths_506 w rec159 rec381 rec394 rec434 a1 a2 a3 a4 a5 a7 a6 m))) else g_X14_norths_510 w rec159 rec381 rec394 rec434 a1 a2 a3 a4 a5 a7 a6 m)))))))))
def g_X14_norths_434 (w : rf_w) (rec159 : Int32 → Int32 → rf_m → Option (rf_m)) (rec381 : Int32 → Int32 → Int32 → rf_m → Option (rf_m)) (rec394 : Int32 → Int32 → Int32 → Int32 → rf_m → Option (rf_m)) : Nat → Int32 → Int32 → Int32 → Int32 → Int32 → Int32 → Int32 → rf_m → Option (rf_m)
  | 0, _, _, _, _, _, _, _, _ => none
  | n + 1, a1, a2, a3, a4, a5, a6, a7, m => g_X14_norths_434_b w rec159 rec381 rec394 (g_X14_norths_434 w rec159 rec381 rec394 n) a1 a2 a3 a4 a5 a6 a7 m
def g_X14_norths_394_b (w : rf_w) (rec159 : Int32 → Int32 → rf_m → Option (rf_m)) (rec381 : Int32 → Int32 → Int32 → rf_m → Option (rf_m)) (rec394 : Int32 → Int32 → Int32 → Int32 → rf_m → Option (rf_m)) (a1 : Int32) (a2 : Int32) (a3 : Int32) (a4 : Int32) (m : rf_m) : Option (rf_m) := (if (m.1 206 4) ≤ a4 then rec381 a1 a2 (a3 + 1) m else rf_g (rf_in ((30 * a3) + a4) 900) ((if (m.1 296 (Int32.toNatClampNeg ((30 * a3) + a4))) = ((-1)) then g_X14_norths_539 w rec159 rec381 rec394 a1 a2 a3 a4 m else g_X14_norths_434 w rec159 rec381 rec394 rf_fuel 1 a2 a3 a4 ((30 * a3) + a4) 0 0 m)))
def g_X14_norths_394 (w : rf_w) (rec159 : Int32 → Int32 → rf_m → Option (rf_m)) (rec381 : Int32 → Int32 → Int32 → rf_m → Option (rf_m)) : Nat → Int32 → Int32 → Int32 → Int32 → rf_m → Option (rf_m)
  | 0, _, _, _, _, _ => none
  | n + 1, a1, a2, a3, a4, m => g_X14_norths_394_b w rec159 rec381 (g_X14_norths_394 w rec159 rec381 n) a1 a2 a3 a4 m
def g_X14_norths_381_b (w : rf_w) (rec159 : Int32 → Int32 → rf_m → Option (rf_m)) (rec381 : Int32 → Int32 → Int32 → rf_m → Option (rf_m)) (a1 : Int32) (a2 : Int32) (a3 : Int32) (m : rf_m) : Option (rf_m) := (if (m.1 206 4) ≤ a3 then rec159 a1 (a2 + 1) m else g_X14_norths_394 w rec159 rec381 rf_fuel a1 a2 a3 (a3 + 1) m)
def g_X14_norths_381 (w : rf_w) (rec159 : Int32 → Int32 → rf_m → Option (rf_m)) : Nat → Int32 → Int32 → Int32 → rf_m → Option (rf_m)
  | 0, _, _, _, _ => none
  | n + 1, a1, a2, a3, m => g_X14_norths_381_b w rec159 (g_X14_norths_381 w rec159 n) a1 a2 a3 m
def g_X14_norths_373 (w : rf_w) (rec159 : Int32 → Int32 → rf_m → Option (rf_m)) (rec189 : Int32 → Int32 → Int32 → rf_m → Option (rf_m)) (a1 : Int32) (a2 : Int32) (a3 : Int32) (m : rf_m) : Option (rf_m) := rec189 a1 a2 (a3 + 1) m
def g_X14_norths_310 (w : rf_w) (rec159 : Int32 → Int32 → rf_m → Option (rf_m)) (rec189 : Int32 → Int32 → Int32 → rf_m → Option (rf_m)) (a1 : Int32) (a2 : Int32) (a3 : Int32) (a4 : Int32) (a5 : Int32) (m : rf_m) : Option (rf_m) := rf_g (rf_in a5 900) ((if (m.1 293 (Int32.toNatClampNeg a5)) = a2 then rf_g (rf_in a4 900) ((if (m.1 293 (Int32.toNatClampNeg a4)) = ((-1)) then rf_g (rf_in a3 80) (rf_g (rf_in a3 80) (rf_g (rf_in a5 900) (rf_g (rf_in a5 900) (rf_g (rf_in a3 80) (rf_b (g_X14_rounded w m ((m.1 292 (Int32.toNatClampNeg a5)) - (m.1 248 (Int32.toNatClampNeg a3)))) fun y7 m7 => rf_bv (g_X14_offers w m7 (m.1 217 (Int32.toNatClampNeg a3)) (m.1 218 (Int32.toNatClampNeg a3)) (m.1 294 (Int32.toNatClampNeg a5)) a3 y7) fun m8 => g_X14_norths_373 w rec159 rec189 a1 a2 a3 m8))))) else g_X14_norths_373 w rec159 rec189 a1 a2 a3 m)) else g_X14_norths_373 w rec159 rec189 a1 a2 a3 m))
def g_X14_norths_189_b (w : rf_w) (rec159 : Int32 → Int32 → rf_m → Option (rf_m)) (rec189 : Int32 → Int32 → Int32 → rf_m → Option (rf_m)) (a1 : Int32) (a2 : Int32) (a3 : Int32) (m : rf_m) : Option (rf_m) := (if (m.1 206 16) ≤ a3 then g_X14_norths_381 w rec159 rf_fuel a1 a2 0 m else rf_g (rf_in a3 80) ((if (m.1 248 (Int32.toNatClampNeg a3)) = ((-2)) then g_X14_norths_373 w rec159 rec189 a1 a2 a3 m else rf_g (rf_in a3 80) (rf_g (rf_in a3 80) (rf_vi ((30 * (m.1 217 (Int32.toNatClampNeg a3))) + (m.1 218 (Int32.toNatClampNeg a3))) fun x3 => rf_g (rf_in a3 80) (rf_g (rf_in a3 80) (rf_vi ((30 * (m.1 217 (Int32.toNatClampNeg a3))) + (m.1 219 (Int32.toNatClampNeg a3))) fun x6 => rf_g (rf_in x3 900) ((if (m.1 293 (Int32.toNatClampNeg x3)) = a2 then rf_g (rf_in x6 900) ((if (m.1 293 (Int32.toNatClampNeg x6)) = ((-1)) then rf_g (rf_in a3 80) (rf_g (rf_in a3 80) (rf_g (rf_in x3 900) (rf_g (rf_in x3 900) (rf_g (rf_in a3 80) (rf_b (g_X14_rounded w m ((m.1 292 (Int32.toNatClampNeg x3)) + (m.1 248 (Int32.toNatClampNeg a3)))) fun y14 m14 => rf_bv (g_X14_offers w m14 (m.1 217 (Int32.toNatClampNeg a3)) (m.1 219 (Int32.toNatClampNeg a3)) (m.1 294 (Int32.toNatClampNeg x3)) a3 y14) fun m15 => g_X14_norths_310 w rec159 rec189 a1 a2 a3 x3 x6 m15))))) else g_X14_norths_310 w rec159 rec189 a1 a2 a3 x3 x6 m)) else g_X14_norths_310 w rec159 rec189 a1 a2 a3 x3 x6 m)))))))))
def g_X14_norths_189 (w : rf_w) (rec159 : Int32 → Int32 → rf_m → Option (rf_m)) : Nat → Int32 → Int32 → Int32 → rf_m → Option (rf_m)
  | 0, _, _, _, _ => none
  | n + 1, a1, a2, a3, m => g_X14_norths_189_b w rec159 (g_X14_norths_189 w rec159 n) a1 a2 a3 m
def g_X14_norths_167_b (w : rf_w) (rec159 : Int32 → Int32 → rf_m → Option (rf_m)) (rec167 : Int32 → Int32 → Int32 → rf_m → Option (rf_m)) (a1 : Int32) (a2 : Int32) (a3 : Int32) (m : rf_m) : Option (rf_m) := (if 900 ≤ a3 then g_X14_norths_189 w rec159 rf_fuel a1 a2 0 m else rf_g (rf_in a3 900) (rec167 a1 a2 (a3 + 1) (rf_i m 296 (Int32.toNatClampNeg a3) ((-1)))))
def g_X14_norths_167 (w : rf_w) (rec159 : Int32 → Int32 → rf_m → Option (rf_m)) : Nat → Int32 → Int32 → Int32 → rf_m → Option (rf_m)
  | 0, _, _, _, _ => none
  | n + 1, a1, a2, a3, m => g_X14_norths_167_b w rec159 (g_X14_norths_167 w rec159 n) a1 a2 a3 m
def g_X14_norths_159_b (w : rf_w) (rec159 : Int32 → Int32 → rf_m → Option (rf_m)) (a1 : Int32) (a2 : Int32) (m : rf_m) : Option (rf_m) := (if a1 = 0 then some m else g_X14_norths_167 w rec159 rf_fuel 0 a2 0 m)
def g_X14_norths_159 (w : rf_w) : Nat → Int32 → Int32 → rf_m → Option (rf_m)
  | 0, _, _, _ => none
  | n + 1, a1, a2, m => g_X14_norths_159_b w (g_X14_norths_159 w n) a1 a2 m
def g_X14_norths_139 (w : rf_w) (rec2 : Int32 → rf_m → Option (rf_m)) (rec12 : Int32 → Int32 → rf_m → Option (rf_m)) (a1 : Int32) (a2 : Int32) (m : rf_m) : Option (rf_m) := rec12 a1 (a2 + 1) m
def g_X14_norths_138 (w : rf_w) (rec2 : Int32 → rf_m → Option (rf_m)) (rec12 : Int32 → Int32 → rf_m → Option (rf_m)) (a1 : Int32) (a2 : Int32) (s1 : Int32) (s2 : Int32) (m : rf_m) : Option (rf_m) := rf_g (rf_in s1 900) (g_X14_norths_139 w rec2 rec12 a1 a2 (rf_i m 294 (Int32.toNatClampNeg s1) s2))
def g_X14_norths_120 (w : rf_w) (rec2 : Int32 → rf_m → Option (rf_m)) (rec12 : Int32 → Int32 → rf_m → Option (rf_m)) (a1 : Int32) (a2 : Int32) (a3 : Int32) (a4 : Int32) (s1 : Int32) (s2 : Int32) (m : rf_m) : Option (rf_m) := rf_g (rf_in s1 900) ((if a4 = ((-2)) then g_X14_norths_138 w rec2 rec12 a1 a2 a3 a2 (rf_i m 292 (Int32.toNatClampNeg s1) s2) else g_X14_norths_138 w rec2 rec12 a1 a2 a3 a1 (rf_i m 292 (Int32.toNatClampNeg s1) s2)))
def g_X14_norths_87 (w : rf_w) (rec2 : Int32 → rf_m → Option (rf_m)) (rec12 : Int32 → Int32 → rf_m → Option (rf_m)) (a1 : Int32) (a2 : Int32) (a3 : Int32) (a4 : Int32) (a5 : Int32) (m : rf_m) : Option (rf_m) := rf_g (rf_in a3 900) ((if a4 = ((-2)) then rf_b (g_X14_rounded w (rf_i m 293 (Int32.toNatClampNeg a3) 0) (a5 + 6480000)) fun y1 m1 => g_X14_norths_120 w rec2 rec12 a1 a2 a3 a4 a3 y1 m1 else g_X14_norths_120 w rec2 rec12 a1 a2 a3 a4 a3 a4 (rf_i m 293 (Int32.toNatClampNeg a3) 0)))
def g_X14_norths_68 (w : rf_w) (rec2 : Int32 → rf_m → Option (rf_m)) (rec12 : Int32 → Int32 → rf_m → Option (rf_m)) (a1 : Int32) (a2 : Int32) (a3 : Int32) (a4 : Int32) (s0 : Int32) (m : rf_m) : Option (rf_m) := (if a4 = ((-2)) then (if s0 = ((-2)) then g_X14_norths_139 w rec2 rec12 a1 a2 m else g_X14_norths_87 w rec2 rec12 a1 a2 a3 a4 s0 m) else g_X14_norths_87 w rec2 rec12 a1 a2 a3 a4 s0 m)
def g_X14_norths_50 (w : rf_w) (rec2 : Int32 → rf_m → Option (rf_m)) (rec12 : Int32 → Int32 → rf_m → Option (rf_m)) (a1 : Int32) (a2 : Int32) (a3 : Int32) (s0 : Int32) (m : rf_m) : Option (rf_m) := (if a1 = a2 then g_X14_norths_68 w rec2 rec12 a1 a2 a3 s0 ((-2)) m else rf_b (g_X14_ownNorth w m a2 a1) fun y0 m0 => g_X14_norths_68 w rec2 rec12 a1 a2 a3 s0 y0 m0)
def g_X14_norths_12_b (w : rf_w) (rec2 : Int32 → rf_m → Option (rf_m)) (rec12 : Int32 → Int32 → rf_m → Option (rf_m)) (a1 : Int32) (a2 : Int32) (m : rf_m) : Option (rf_m) := (if (m.1 206 4) ≤ a2 then rec2 (a1 + 1) m else rf_g (rf_in ((30 * a1) + a2) 900) ((if a1 = a2 then g_X14_norths_50 w rec2 rec12 a1 a2 ((30 * a1) + a2) ((-2)) (rf_i m 293 (Int32.toNatClampNeg ((30 * a1) + a2)) ((-1))) else rf_b (g_X14_ownNorth w (rf_i m 293 (Int32.toNatClampNeg ((30 * a1) + a2)) ((-1))) a1 a2) fun y1 m1 => g_X14_norths_50 w rec2 rec12 a1 a2 ((30 * a1) + a2) y1 m1)))
def g_X14_norths_12 (w : rf_w) (rec2 : Int32 → rf_m → Option (rf_m)) : Nat → Int32 → Int32 → rf_m → Option (rf_m)
  | 0, _, _, _ => none
  | n + 1, a1, a2, m => g_X14_norths_12_b w rec2 (g_X14_norths_12 w rec2 n) a1 a2 m
def g_X14_norths_2_b (w : rf_w) (rec2 : Int32 → rf_m → Option (rf_m)) (a1 : Int32) (m : rf_m) : Option (rf_m) := (if (m.1 206 4) ≤ a1 then rf_bv (g_X14_allMeans w m) fun m0 => g_X14_norths_159 w rf_fuel 1 0 m0 else g_X14_norths_12 w rec2 rf_fuel a1 0 m)
def g_X14_norths_2 (w : rf_w) : Nat → Int32 → rf_m → Option (rf_m)
  | 0, _, _ => none
  | n + 1, a1, m => g_X14_norths_2_b w (g_X14_norths_2 w n) a1 m
def g_X14_norths (w : rf_w) (m : rf_m) : Option (rf_m) := g_X14_norths_2 w rf_fuel 0 m
theorem s_X14_norths_539 {w : rf_w} {K : rf_K} {r : rf_m} (C : rf_Ctx 14 cX14_norths 8 10 (rf_sh w) K) (hE : rf_End none K (rf_sh w) 0 0 none (rf_MM w r)) {rec159 : Int32 → Int32 → rf_m → Option (rf_m)} {rec381 : Int32 → Int32 → Int32 → rf_m → Option (rf_m)} {rec394 : Int32 → Int32 → Int32 → Int32 → rf_m → Option (rf_m)} (hr159 : ∀ (a1 : Int32) (a2 : Int32) (m : rf_m), rec159 a1 a2 m = some r → rf_V 8 (rf_sh w) K 0 0 159 ([(0, .ref 206), (1, .int a1), (2, .int a2)], [], rf_MM w m)) (hr381 : ∀ (a1 : Int32) (a2 : Int32) (a3 : Int32) (m : rf_m), rec381 a1 a2 a3 m = some r → rf_V 8 (rf_sh w) K 0 0 381 ([(0, .ref 206), (1, .int a1), (2, .int a2), (3, .int a3)], [], rf_MM w m)) (hr394 : ∀ (a1 : Int32) (a2 : Int32) (a3 : Int32) (a4 : Int32) (m : rf_m), rec394 a1 a2 a3 a4 m = some r → rf_V 8 (rf_sh w) K 0 0 394 ([(0, .ref 206), (1, .int a1), (2, .int a2), (3, .int a3), (4, .int a4)], [], rf_MM w m)) (a1 : Int32) (a2 : Int32) (a3 : Int32) (a4 : Int32) (m : rf_m) (hg : g_X14_norths_539 w rec159 rec381 rec394 a1 a2 a3 a4 m = some r) : rf_V 8 (rf_sh w) K 0 0 539 ([(0, .ref 206), (1, .int a1), (2, .int a2), (3, .int a3), (4, .int a4)], [], rf_MM w m) := by
  unfold g_X14_norths_539 at hg
  refine rf_seg C [(.iinc 4 1, 3)] (pc' := 542) (S' := ([(4, .int (a4 + 1)), (0, .ref 206), (1, .int a1), (2, .int a2), (3, .int a3)], [], rf_MM w m)) (by decide +kernel) rfl trivial ?_
  refine rf_goto C (-148) 394 (by decide +kernel) ?_
  refine rf_few [1, 2, 3, 4, 0] rfl ?_
  exact hr394 a1 a2 a3 (a4 + 1) m hg
theorem s_X14_norths_511 {w : rf_w} {K : rf_K} {r : rf_m} (C : rf_Ctx 14 cX14_norths 8 10 (rf_sh w) K) (hE : rf_End none K (rf_sh w) 0 0 none (rf_MM w r)) {rec159 : Int32 → Int32 → rf_m → Option (rf_m)} {rec381 : Int32 → Int32 → Int32 → rf_m → Option (rf_m)} {rec394 : Int32 → Int32 → Int32 → Int32 → rf_m → Option (rf_m)} {rec434 : Int32 → Int32 → Int32 → Int32 → Int32 → Int32 → Int32 → rf_m → Option (rf_m)} (hr159 : ∀ (a1 : Int32) (a2 : Int32) (m : rf_m), rec159 a1 a2 m = some r → rf_V 8 (rf_sh w) K 0 0 159 ([(0, .ref 206), (1, .int a1), (2, .int a2)], [], rf_MM w m)) (hr381 : ∀ (a1 : Int32) (a2 : Int32) (a3 : Int32) (m : rf_m), rec381 a1 a2 a3 m = some r → rf_V 8 (rf_sh w) K 0 0 381 ([(0, .ref 206), (1, .int a1), (2, .int a2), (3, .int a3)], [], rf_MM w m)) (hr394 : ∀ (a1 : Int32) (a2 : Int32) (a3 : Int32) (a4 : Int32) (m : rf_m), rec394 a1 a2 a3 a4 m = some r → rf_V 8 (rf_sh w) K 0 0 394 ([(0, .ref 206), (1, .int a1), (2, .int a2), (3, .int a3), (4, .int a4)], [], rf_MM w m)) (hr434 : ∀ (a1 : Int32) (a2 : Int32) (a3 : Int32) (a4 : Int32) (a5 : Int32) (a6 : Int32) (a7 : Int32) (m : rf_m), rec434 a1 a2 a3 a4 a5 a6 a7 m = some r → rf_V 8 (rf_sh w) K 0 0 434 ([(0, .ref 206), (1, .int a1), (2, .int a2), (3, .int a3), (4, .int a4), (5, .int a5), (6, .int a6), (7, .int a7)], [], rf_MM w m)) (a1 : Int32) (a2 : Int32) (a3 : Int32) (a4 : Int32) (a5 : Int32) (a7 : Int32) (s0 : Int32) (s1 : Int32) (m : rf_m) (hg : g_X14_norths_511 w rec159 rec381 rec394 rec434 a1 a2 a3 a4 a5 a7 s0 s1 m = some r) : rf_V 8 (rf_sh w) K 0 0 511 ([(0, .ref 206), (1, .int a1), (2, .int a2), (3, .int a3), (4, .int a4), (5, .int a5), (7, .int a7)], [.int s1, .int s0], rf_MM w m) := by
  unfold g_X14_norths_511 at hg
  refine rf_seg C [(.iadd, 1), (.istore 6, 2), (.iinc 7 1, 3)] (pc' := 517) (S' := ([(7, .int (a7 + 1)), (6, .int (s0 + s1)), (0, .ref 206), (1, .int a1), (2, .int a2), (3, .int a3), (4, .int a4), (5, .int a5)], [], rf_MM w m)) (by decide +kernel) rfl trivial ?_
  refine rf_goto C (-83) 434 (by decide +kernel) ?_
  refine rf_few [2, 3, 4, 5, 6, 7, 1, 0] rfl ?_
  exact hr434 a1 a2 a3 a4 a5 (s0 + s1) (a7 + 1) m hg
theorem s_X14_norths_510 {w : rf_w} {K : rf_K} {r : rf_m} (C : rf_Ctx 14 cX14_norths 8 10 (rf_sh w) K) (hE : rf_End none K (rf_sh w) 0 0 none (rf_MM w r)) {rec159 : Int32 → Int32 → rf_m → Option (rf_m)} {rec381 : Int32 → Int32 → Int32 → rf_m → Option (rf_m)} {rec394 : Int32 → Int32 → Int32 → Int32 → rf_m → Option (rf_m)} {rec434 : Int32 → Int32 → Int32 → Int32 → Int32 → Int32 → Int32 → rf_m → Option (rf_m)} (hr159 : ∀ (a1 : Int32) (a2 : Int32) (m : rf_m), rec159 a1 a2 m = some r → rf_V 8 (rf_sh w) K 0 0 159 ([(0, .ref 206), (1, .int a1), (2, .int a2)], [], rf_MM w m)) (hr381 : ∀ (a1 : Int32) (a2 : Int32) (a3 : Int32) (m : rf_m), rec381 a1 a2 a3 m = some r → rf_V 8 (rf_sh w) K 0 0 381 ([(0, .ref 206), (1, .int a1), (2, .int a2), (3, .int a3)], [], rf_MM w m)) (hr394 : ∀ (a1 : Int32) (a2 : Int32) (a3 : Int32) (a4 : Int32) (m : rf_m), rec394 a1 a2 a3 a4 m = some r → rf_V 8 (rf_sh w) K 0 0 394 ([(0, .ref 206), (1, .int a1), (2, .int a2), (3, .int a3), (4, .int a4)], [], rf_MM w m)) (hr434 : ∀ (a1 : Int32) (a2 : Int32) (a3 : Int32) (a4 : Int32) (a5 : Int32) (a6 : Int32) (a7 : Int32) (m : rf_m), rec434 a1 a2 a3 a4 a5 a6 a7 m = some r → rf_V 8 (rf_sh w) K 0 0 434 ([(0, .ref 206), (1, .int a1), (2, .int a2), (3, .int a3), (4, .int a4), (5, .int a5), (6, .int a6), (7, .int a7)], [], rf_MM w m)) (a1 : Int32) (a2 : Int32) (a3 : Int32) (a4 : Int32) (a5 : Int32) (a7 : Int32) (s0 : Int32) (m : rf_m) (hg : g_X14_norths_510 w rec159 rec381 rec394 rec434 a1 a2 a3 a4 a5 a7 s0 m = some r) : rf_V 8 (rf_sh w) K 0 0 510 ([(0, .ref 206), (1, .int a1), (2, .int a2), (3, .int a3), (4, .int a4), (5, .int a5), (7, .int a7)], [.int s0], rf_MM w m) := by
  unfold g_X14_norths_510 at hg
  refine rf_seg C [(.iconst 0, 1)] (pc' := 511) (S' := ([(0, .ref 206), (1, .int a1), (2, .int a2), (3, .int a3), (4, .int a4), (5, .int a5), (7, .int a7)], [.int 0, .int s0], rf_MM w m)) (by decide +kernel) rfl trivial ?_
  refine rf_few [0, 1, 2, 3, 4, 5, 6] rfl ?_
  exact s_X14_norths_511 C hE hr159 hr381 hr394 hr434 a1 a2 a3 a4 a5 a7 s0 0 m hg
theorem s_X14_norths_506 {w : rf_w} {K : rf_K} {r : rf_m} (C : rf_Ctx 14 cX14_norths 8 10 (rf_sh w) K) (hE : rf_End none K (rf_sh w) 0 0 none (rf_MM w r)) {rec159 : Int32 → Int32 → rf_m → Option (rf_m)} {rec381 : Int32 → Int32 → Int32 → rf_m → Option (rf_m)} {rec394 : Int32 → Int32 → Int32 → Int32 → rf_m → Option (rf_m)} {rec434 : Int32 → Int32 → Int32 → Int32 → Int32 → Int32 → Int32 → rf_m → Option (rf_m)} (hr159 : ∀ (a1 : Int32) (a2 : Int32) (m : rf_m), rec159 a1 a2 m = some r → rf_V 8 (rf_sh w) K 0 0 159 ([(0, .ref 206), (1, .int a1), (2, .int a2)], [], rf_MM w m)) (hr381 : ∀ (a1 : Int32) (a2 : Int32) (a3 : Int32) (m : rf_m), rec381 a1 a2 a3 m = some r → rf_V 8 (rf_sh w) K 0 0 381 ([(0, .ref 206), (1, .int a1), (2, .int a2), (3, .int a3)], [], rf_MM w m)) (hr394 : ∀ (a1 : Int32) (a2 : Int32) (a3 : Int32) (a4 : Int32) (m : rf_m), rec394 a1 a2 a3 a4 m = some r → rf_V 8 (rf_sh w) K 0 0 394 ([(0, .ref 206), (1, .int a1), (2, .int a2), (3, .int a3), (4, .int a4)], [], rf_MM w m)) (hr434 : ∀ (a1 : Int32) (a2 : Int32) (a3 : Int32) (a4 : Int32) (a5 : Int32) (a6 : Int32) (a7 : Int32) (m : rf_m), rec434 a1 a2 a3 a4 a5 a6 a7 m = some r → rf_V 8 (rf_sh w) K 0 0 434 ([(0, .ref 206), (1, .int a1), (2, .int a2), (3, .int a3), (4, .int a4), (5, .int a5), (6, .int a6), (7, .int a7)], [], rf_MM w m)) (a1 : Int32) (a2 : Int32) (a3 : Int32) (a4 : Int32) (a5 : Int32) (a7 : Int32) (s0 : Int32) (m : rf_m) (hg : g_X14_norths_506 w rec159 rec381 rec394 rec434 a1 a2 a3 a4 a5 a7 s0 m = some r) : rf_V 8 (rf_sh w) K 0 0 506 ([(0, .ref 206), (1, .int a1), (2, .int a2), (3, .int a3), (4, .int a4), (5, .int a5), (7, .int a7)], [.int s0], rf_MM w m) := by
  unfold g_X14_norths_506 at hg
  refine rf_seg C [(.iconst 1, 1)] (pc' := 507) (S' := ([(0, .ref 206), (1, .int a1), (2, .int a2), (3, .int a3), (4, .int a4), (5, .int a5), (7, .int a7)], [.int 1, .int s0], rf_MM w m)) (by decide +kernel) rfl trivial ?_
  refine rf_goto C 4 511 (by decide +kernel) ?_
  refine rf_few [0, 1, 2, 3, 4, 5, 6] rfl ?_
  exact s_X14_norths_511 C hE hr159 hr381 hr394 hr434 a1 a2 a3 a4 a5 a7 s0 1 m hg
theorem s_X14_norths_434_b {w : rf_w} {K : rf_K} {r : rf_m} (C : rf_Ctx 14 cX14_norths 8 10 (rf_sh w) K) (hE : rf_End none K (rf_sh w) 0 0 none (rf_MM w r)) {rec159 : Int32 → Int32 → rf_m → Option (rf_m)} {rec381 : Int32 → Int32 → Int32 → rf_m → Option (rf_m)} {rec394 : Int32 → Int32 → Int32 → Int32 → rf_m → Option (rf_m)} {rec434 : Int32 → Int32 → Int32 → Int32 → Int32 → Int32 → Int32 → rf_m → Option (rf_m)} (hr159 : ∀ (a1 : Int32) (a2 : Int32) (m : rf_m), rec159 a1 a2 m = some r → rf_V 8 (rf_sh w) K 0 0 159 ([(0, .ref 206), (1, .int a1), (2, .int a2)], [], rf_MM w m)) (hr381 : ∀ (a1 : Int32) (a2 : Int32) (a3 : Int32) (m : rf_m), rec381 a1 a2 a3 m = some r → rf_V 8 (rf_sh w) K 0 0 381 ([(0, .ref 206), (1, .int a1), (2, .int a2), (3, .int a3)], [], rf_MM w m)) (hr394 : ∀ (a1 : Int32) (a2 : Int32) (a3 : Int32) (a4 : Int32) (m : rf_m), rec394 a1 a2 a3 a4 m = some r → rf_V 8 (rf_sh w) K 0 0 394 ([(0, .ref 206), (1, .int a1), (2, .int a2), (3, .int a3), (4, .int a4)], [], rf_MM w m)) (hr434 : ∀ (a1 : Int32) (a2 : Int32) (a3 : Int32) (a4 : Int32) (a5 : Int32) (a6 : Int32) (a7 : Int32) (m : rf_m), rec434 a1 a2 a3 a4 a5 a6 a7 m = some r → rf_V 8 (rf_sh w) K 0 0 434 ([(0, .ref 206), (1, .int a1), (2, .int a2), (3, .int a3), (4, .int a4), (5, .int a5), (6, .int a6), (7, .int a7)], [], rf_MM w m)) (a1 : Int32) (a2 : Int32) (a3 : Int32) (a4 : Int32) (a5 : Int32) (a6 : Int32) (a7 : Int32) (m : rf_m) (hg : g_X14_norths_434_b w rec159 rec381 rec394 rec434 a1 a2 a3 a4 a5 a6 a7 m = some r) : rf_V 8 (rf_sh w) K 0 0 434 ([(0, .ref 206), (1, .int a1), (2, .int a2), (3, .int a3), (4, .int a4), (5, .int a5), (6, .int a6), (7, .int a7)], [], rf_MM w m) := by
  unfold g_X14_norths_434_b at hg
  refine rf_seg C [(.iload 7, 2), (.iconst 900, 3)] (pc' := 439) (S' := ([(0, .ref 206), (1, .int a1), (2, .int a2), (3, .int a3), (4, .int a4), (5, .int a5), (6, .int a6), (7, .int a7)], [.int 900, .int a7], rf_MM w m)) (by decide +kernel) rfl trivial ?_
  refine rf_icmp_ge C 81 520 (by decide +kernel) (fun hc => ?_) (fun hc => ?_)
  · replace hg := (if_pos hc).symm.trans hg
    obtain ⟨q0, hg⟩ := rf_g_some hg
    refine rf_seg C [(.aload 0, 1), (.iload 3, 1), (.iload 4, 2), (.iload 2, 1), (.iconst 1, 1), (.iadd, 1), (.iload 6, 2), (.aload 0, 1), (.invokeinterface 14 135, 3), (.iload 5, 2), (.iaload, 1)] (pc' := 536) (S' := ([(0, .ref 206), (1, .int a1), (2, .int a2), (3, .int a3), (4, .int a4), (5, .int a5), (6, .int a6), (7, .int a7)], [.int (m.1 297 (Int32.toNatClampNeg a5)), .int a6, .int (a2 + 1), .int a4, .int a3, .ref 206], rf_MM w m)) (by decide +kernel) rfl (rf_in_of q0) ?_
    obtain ⟨m1, hc1, hg⟩ := rf_bv_some hg
    refine rf_callv C rf_fit0 j_X14_tells (ci := 14) (As := [.int a3, .int a4, .int (a2 + 1), .int a6, .int (m.1 297 (Int32.toNatClampNeg a5))]) (rest := []) mw_X14_tells (c_X14_tells hc1) (by decide) rfl (by decide) lk_14_887 rfl rfl (Nat.le_of_ble_eq_true rfl) (by decide +kernel) ?_
    show rf_V 8 (rf_sh w) K 0 0 539 ([(0, .ref 206), (1, .int a1), (2, .int a2), (3, .int a3), (4, .int a4), (5, .int a5), (6, .int a6), (7, .int a7)], [], rf_MM w m1)
    refine rf_few [0, 1, 2, 3, 4] rfl ?_
    exact s_X14_norths_539 C hE hr159 hr381 hr394 a1 a2 a3 a4 m1 hg
  · replace hg := (if_neg hc).symm.trans hg
    obtain ⟨q2, hg⟩ := rf_g_some hg
    refine rf_seg C [(.iload 6, 2), (.aload 0, 1), (.invokeinterface 14 134, 3), (.iload 7, 2), (.iaload, 1), (.iconst (-1), 1)] (pc' := 452) (S' := ([(0, .ref 206), (1, .int a1), (2, .int a2), (3, .int a3), (4, .int a4), (5, .int a5), (6, .int a6), (7, .int a7)], [.int ((-1)), .int (m.1 296 (Int32.toNatClampNeg a7)), .int a6], rf_MM w m)) (by decide +kernel) rfl (rf_in_of q2) ?_
    refine rf_icmp_eq C 58 510 (by decide +kernel) (fun hc => ?_) (fun hc => ?_)
    · replace hg := (if_pos hc).symm.trans hg
      refine rf_few [0, 1, 2, 3, 4, 5, 7] rfl ?_
      exact s_X14_norths_510 C hE hr159 hr381 hr394 hr434 a1 a2 a3 a4 a5 a7 a6 m hg
    · replace hg := (if_neg hc).symm.trans hg
      obtain ⟨q3, hg⟩ := rf_g_some hg
      obtain ⟨q4, hg⟩ := rf_g_some hg
      refine rf_seg C [(.aload 0, 1), (.invokeinterface 14 133, 3), (.iload 7, 2), (.iaload, 1), (.aload 0, 1), (.invokeinterface 14 133, 3), (.iload 5, 2), (.iaload, 1)] (pc' := 469) (S' := ([(0, .ref 206), (1, .int a1), (2, .int a2), (3, .int a3), (4, .int a4), (5, .int a5), (6, .int a6), (7, .int a7)], [.int (m.1 295 (Int32.toNatClampNeg a5)), .int (m.1 295 (Int32.toNatClampNeg a7)), .int a6], rf_MM w m)) (by decide +kernel) rfl (by exact ⟨(rf_in_of q3), (rf_in_of q4)⟩) ?_
      refine rf_icmp_lt C 37 506 (by decide +kernel) (fun hc => ?_) (fun hc => ?_)
      · replace hg := (if_pos hc).symm.trans hg
        refine rf_few [0, 1, 2, 3, 4, 5, 7] rfl ?_
        exact s_X14_norths_506 C hE hr159 hr381 hr394 hr434 a1 a2 a3 a4 a5 a7 a6 m hg
      · replace hg := (if_neg hc).symm.trans hg
        obtain ⟨q5, hg⟩ := rf_g_some hg
        obtain ⟨q6, hg⟩ := rf_g_some hg
        refine rf_seg C [(.aload 0, 1), (.invokeinterface 14 133, 3), (.iload 7, 2), (.iaload, 1), (.aload 0, 1), (.invokeinterface 14 133, 3), (.iload 5, 2), (.iaload, 1)] (pc' := 486) (S' := ([(0, .ref 206), (1, .int a1), (2, .int a2), (3, .int a3), (4, .int a4), (5, .int a5), (6, .int a6), (7, .int a7)], [.int (m.1 295 (Int32.toNatClampNeg a5)), .int (m.1 295 (Int32.toNatClampNeg a7)), .int a6], rf_MM w m)) (by decide +kernel) rfl (by exact ⟨(rf_in_of q5), (rf_in_of q6)⟩) ?_
        refine rf_icmp_ne C 24 510 (by decide +kernel) (fun hc => ?_) (fun hc => ?_)
        · replace hg := (if_neg hc).symm.trans hg
          refine rf_few [0, 1, 2, 3, 4, 5, 7] rfl ?_
          exact s_X14_norths_510 C hE hr159 hr381 hr394 hr434 a1 a2 a3 a4 a5 a7 a6 m hg
        · replace hg := (if_pos hc).symm.trans hg
          obtain ⟨q7, hg⟩ := rf_g_some hg
          obtain ⟨q8, hg⟩ := rf_g_some hg
          refine rf_seg C [(.aload 0, 1), (.invokeinterface 14 134, 3), (.iload 7, 2), (.iaload, 1), (.aload 0, 1), (.invokeinterface 14 134, 3), (.iload 5, 2), (.iaload, 1)] (pc' := 503) (S' := ([(0, .ref 206), (1, .int a1), (2, .int a2), (3, .int a3), (4, .int a4), (5, .int a5), (6, .int a6), (7, .int a7)], [.int (m.1 296 (Int32.toNatClampNeg a5)), .int (m.1 296 (Int32.toNatClampNeg a7)), .int a6], rf_MM w m)) (by decide +kernel) rfl (by exact ⟨(rf_in_of q7), (rf_in_of q8)⟩) ?_
          refine rf_icmp_ge C 7 510 (by decide +kernel) (fun hc => ?_) (fun hc => ?_)
          · replace hg := (if_pos hc).symm.trans hg
            refine rf_few [0, 1, 2, 3, 4, 5, 7] rfl ?_
            exact s_X14_norths_510 C hE hr159 hr381 hr394 hr434 a1 a2 a3 a4 a5 a7 a6 m hg
          · replace hg := (if_neg hc).symm.trans hg
            refine rf_few [0, 1, 2, 3, 4, 5, 7] rfl ?_
            exact s_X14_norths_506 C hE hr159 hr381 hr394 hr434 a1 a2 a3 a4 a5 a7 a6 m hg
theorem s_X14_norths_434 {w : rf_w} {K : rf_K} {r : rf_m} (C : rf_Ctx 14 cX14_norths 8 10 (rf_sh w) K) (hE : rf_End none K (rf_sh w) 0 0 none (rf_MM w r)) {rec159 : Int32 → Int32 → rf_m → Option (rf_m)} {rec381 : Int32 → Int32 → Int32 → rf_m → Option (rf_m)} {rec394 : Int32 → Int32 → Int32 → Int32 → rf_m → Option (rf_m)} (hr159 : ∀ (a1 : Int32) (a2 : Int32) (m : rf_m), rec159 a1 a2 m = some r → rf_V 8 (rf_sh w) K 0 0 159 ([(0, .ref 206), (1, .int a1), (2, .int a2)], [], rf_MM w m)) (hr381 : ∀ (a1 : Int32) (a2 : Int32) (a3 : Int32) (m : rf_m), rec381 a1 a2 a3 m = some r → rf_V 8 (rf_sh w) K 0 0 381 ([(0, .ref 206), (1, .int a1), (2, .int a2), (3, .int a3)], [], rf_MM w m)) (hr394 : ∀ (a1 : Int32) (a2 : Int32) (a3 : Int32) (a4 : Int32) (m : rf_m), rec394 a1 a2 a3 a4 m = some r → rf_V 8 (rf_sh w) K 0 0 394 ([(0, .ref 206), (1, .int a1), (2, .int a2), (3, .int a3), (4, .int a4)], [], rf_MM w m)) (n : Nat) : ∀ (a1 : Int32) (a2 : Int32) (a3 : Int32) (a4 : Int32) (a5 : Int32) (a6 : Int32) (a7 : Int32) (m : rf_m), g_X14_norths_434 w rec159 rec381 rec394 n a1 a2 a3 a4 a5 a6 a7 m = some r → rf_V 8 (rf_sh w) K 0 0 434 ([(0, .ref 206), (1, .int a1), (2, .int a2), (3, .int a3), (4, .int a4), (5, .int a5), (6, .int a6), (7, .int a7)], [], rf_MM w m) := by
  induction n with
  | zero => intro a1 a2 a3 a4 a5 a6 a7 m hg; cases hg
  | succ n ih => intro a1 a2 a3 a4 a5 a6 a7 m hg; exact s_X14_norths_434_b C hE hr159 hr381 hr394 ih a1 a2 a3 a4 a5 a6 a7 m hg
theorem s_X14_norths_394_b {w : rf_w} {K : rf_K} {r : rf_m} (C : rf_Ctx 14 cX14_norths 8 10 (rf_sh w) K) (hE : rf_End none K (rf_sh w) 0 0 none (rf_MM w r)) {rec159 : Int32 → Int32 → rf_m → Option (rf_m)} {rec381 : Int32 → Int32 → Int32 → rf_m → Option (rf_m)} {rec394 : Int32 → Int32 → Int32 → Int32 → rf_m → Option (rf_m)} (hr159 : ∀ (a1 : Int32) (a2 : Int32) (m : rf_m), rec159 a1 a2 m = some r → rf_V 8 (rf_sh w) K 0 0 159 ([(0, .ref 206), (1, .int a1), (2, .int a2)], [], rf_MM w m)) (hr381 : ∀ (a1 : Int32) (a2 : Int32) (a3 : Int32) (m : rf_m), rec381 a1 a2 a3 m = some r → rf_V 8 (rf_sh w) K 0 0 381 ([(0, .ref 206), (1, .int a1), (2, .int a2), (3, .int a3)], [], rf_MM w m)) (hr394 : ∀ (a1 : Int32) (a2 : Int32) (a3 : Int32) (a4 : Int32) (m : rf_m), rec394 a1 a2 a3 a4 m = some r → rf_V 8 (rf_sh w) K 0 0 394 ([(0, .ref 206), (1, .int a1), (2, .int a2), (3, .int a3), (4, .int a4)], [], rf_MM w m)) (a1 : Int32) (a2 : Int32) (a3 : Int32) (a4 : Int32) (m : rf_m) (hg : g_X14_norths_394_b w rec159 rec381 rec394 a1 a2 a3 a4 m = some r) : rf_V 8 (rf_sh w) K 0 0 394 ([(0, .ref 206), (1, .int a1), (2, .int a2), (3, .int a3), (4, .int a4)], [], rf_MM w m) := by
  unfold g_X14_norths_394_b at hg
  refine rf_seg C [(.iload 4, 2), (.aload 0, 1), (.invokeinterface 14 4, 3)] (pc' := 400) (S' := ([(0, .ref 206), (1, .int a1), (2, .int a2), (3, .int a3), (4, .int a4)], [.int (m.1 206 4), .int a4], rf_MM w m)) (by decide +kernel) rfl trivial ?_
  refine rf_icmp_ge C 145 545 (by decide +kernel) (fun hc => ?_) (fun hc => ?_)
  · replace hg := (if_pos hc).symm.trans hg
    refine rf_seg C [(.iinc 3 1, 3)] (pc' := 548) (S' := ([(3, .int (a3 + 1)), (0, .ref 206), (1, .int a1), (2, .int a2), (4, .int a4)], [], rf_MM w m)) (by decide +kernel) rfl trivial ?_
    refine rf_goto C (-167) 381 (by decide +kernel) ?_
    refine rf_few [1, 2, 3, 0] rfl ?_
    exact hr381 a1 a2 (a3 + 1) m hg
  · replace hg := (if_neg hc).symm.trans hg
    obtain ⟨q0, hg⟩ := rf_g_some hg
    refine rf_seg C [(.iconst 30, 2), (.iload 3, 1), (.imul, 1), (.iload 4, 2), (.iadd, 1), (.istore 5, 2), (.aload 0, 1), (.invokeinterface 14 134, 3), (.iload 5, 2), (.iaload, 1), (.iconst (-1), 1)] (pc' := 420) (S' := ([(5, .int ((30 * a3) + a4)), (0, .ref 206), (1, .int a1), (2, .int a2), (3, .int a3), (4, .int a4)], [.int ((-1)), .int (m.1 296 (Int32.toNatClampNeg ((30 * a3) + a4)))], rf_MM w m)) (by decide +kernel) rfl (rf_in_of q0) ?_
    refine rf_icmp_ne C 6 426 (by decide +kernel) (fun hc => ?_) (fun hc => ?_)
    · replace hg := (if_neg hc).symm.trans hg
      refine rf_seg C [(.iconst 1, 1), (.istore 1, 1), (.iconst 0, 1), (.istore 6, 2), (.iconst 0, 1), (.istore 7, 2)] (pc' := 434) (S' := ([(7, .int 0), (6, .int 0), (1, .int 1), (5, .int ((30 * a3) + a4)), (0, .ref 206), (2, .int a2), (3, .int a3), (4, .int a4)], [], rf_MM w m)) (by decide +kernel) rfl trivial ?_
      refine rf_few [4, 2, 5, 6, 7, 3, 1, 0] rfl ?_
      exact s_X14_norths_434 C hE hr159 hr381 hr394 rf_fuel 1 a2 a3 a4 ((30 * a3) + a4) 0 0 m hg
    · replace hg := (if_pos hc).symm.trans hg
      refine rf_goto C 116 539 (by decide +kernel) ?_
      refine rf_few [1, 2, 3, 4, 5] rfl ?_
      exact s_X14_norths_539 C hE hr159 hr381 hr394 a1 a2 a3 a4 m hg
theorem s_X14_norths_394 {w : rf_w} {K : rf_K} {r : rf_m} (C : rf_Ctx 14 cX14_norths 8 10 (rf_sh w) K) (hE : rf_End none K (rf_sh w) 0 0 none (rf_MM w r)) {rec159 : Int32 → Int32 → rf_m → Option (rf_m)} {rec381 : Int32 → Int32 → Int32 → rf_m → Option (rf_m)} (hr159 : ∀ (a1 : Int32) (a2 : Int32) (m : rf_m), rec159 a1 a2 m = some r → rf_V 8 (rf_sh w) K 0 0 159 ([(0, .ref 206), (1, .int a1), (2, .int a2)], [], rf_MM w m)) (hr381 : ∀ (a1 : Int32) (a2 : Int32) (a3 : Int32) (m : rf_m), rec381 a1 a2 a3 m = some r → rf_V 8 (rf_sh w) K 0 0 381 ([(0, .ref 206), (1, .int a1), (2, .int a2), (3, .int a3)], [], rf_MM w m)) (n : Nat) : ∀ (a1 : Int32) (a2 : Int32) (a3 : Int32) (a4 : Int32) (m : rf_m), g_X14_norths_394 w rec159 rec381 n a1 a2 a3 a4 m = some r → rf_V 8 (rf_sh w) K 0 0 394 ([(0, .ref 206), (1, .int a1), (2, .int a2), (3, .int a3), (4, .int a4)], [], rf_MM w m) := by
  induction n with
  | zero => intro a1 a2 a3 a4 m hg; cases hg
  | succ n ih => intro a1 a2 a3 a4 m hg; exact s_X14_norths_394_b C hE hr159 hr381 ih a1 a2 a3 a4 m hg
theorem s_X14_norths_381_b {w : rf_w} {K : rf_K} {r : rf_m} (C : rf_Ctx 14 cX14_norths 8 10 (rf_sh w) K) (hE : rf_End none K (rf_sh w) 0 0 none (rf_MM w r)) {rec159 : Int32 → Int32 → rf_m → Option (rf_m)} {rec381 : Int32 → Int32 → Int32 → rf_m → Option (rf_m)} (hr159 : ∀ (a1 : Int32) (a2 : Int32) (m : rf_m), rec159 a1 a2 m = some r → rf_V 8 (rf_sh w) K 0 0 159 ([(0, .ref 206), (1, .int a1), (2, .int a2)], [], rf_MM w m)) (hr381 : ∀ (a1 : Int32) (a2 : Int32) (a3 : Int32) (m : rf_m), rec381 a1 a2 a3 m = some r → rf_V 8 (rf_sh w) K 0 0 381 ([(0, .ref 206), (1, .int a1), (2, .int a2), (3, .int a3)], [], rf_MM w m)) (a1 : Int32) (a2 : Int32) (a3 : Int32) (m : rf_m) (hg : g_X14_norths_381_b w rec159 rec381 a1 a2 a3 m = some r) : rf_V 8 (rf_sh w) K 0 0 381 ([(0, .ref 206), (1, .int a1), (2, .int a2), (3, .int a3)], [], rf_MM w m) := by
  unfold g_X14_norths_381_b at hg
  refine rf_seg C [(.iload 3, 1), (.aload 0, 1), (.invokeinterface 14 4, 3)] (pc' := 386) (S' := ([(0, .ref 206), (1, .int a1), (2, .int a2), (3, .int a3)], [.int (m.1 206 4), .int a3], rf_MM w m)) (by decide +kernel) rfl trivial ?_
  refine rf_icmp_ge C 165 551 (by decide +kernel) (fun hc => ?_) (fun hc => ?_)
  · replace hg := (if_pos hc).symm.trans hg
    refine rf_seg C [(.iinc 2 1, 3)] (pc' := 554) (S' := ([(2, .int (a2 + 1)), (0, .ref 206), (1, .int a1), (3, .int a3)], [], rf_MM w m)) (by decide +kernel) rfl trivial ?_
    refine rf_goto C (-395) 159 (by decide +kernel) ?_
    refine rf_few [1, 2, 0] rfl ?_
    exact hr159 a1 (a2 + 1) m hg
  · replace hg := (if_neg hc).symm.trans hg
    refine rf_seg C [(.iload 3, 1), (.iconst 1, 1), (.iadd, 1), (.istore 4, 2)] (pc' := 394) (S' := ([(4, .int (a3 + 1)), (0, .ref 206), (1, .int a1), (2, .int a2), (3, .int a3)], [], rf_MM w m)) (by decide +kernel) rfl trivial ?_
    refine rf_few [1, 2, 3, 4, 0] rfl ?_
    exact s_X14_norths_394 C hE hr159 hr381 rf_fuel a1 a2 a3 (a3 + 1) m hg
theorem s_X14_norths_381 {w : rf_w} {K : rf_K} {r : rf_m} (C : rf_Ctx 14 cX14_norths 8 10 (rf_sh w) K) (hE : rf_End none K (rf_sh w) 0 0 none (rf_MM w r)) {rec159 : Int32 → Int32 → rf_m → Option (rf_m)} (hr159 : ∀ (a1 : Int32) (a2 : Int32) (m : rf_m), rec159 a1 a2 m = some r → rf_V 8 (rf_sh w) K 0 0 159 ([(0, .ref 206), (1, .int a1), (2, .int a2)], [], rf_MM w m)) (n : Nat) : ∀ (a1 : Int32) (a2 : Int32) (a3 : Int32) (m : rf_m), g_X14_norths_381 w rec159 n a1 a2 a3 m = some r → rf_V 8 (rf_sh w) K 0 0 381 ([(0, .ref 206), (1, .int a1), (2, .int a2), (3, .int a3)], [], rf_MM w m) := by
  induction n with
  | zero => intro a1 a2 a3 m hg; cases hg
  | succ n ih => intro a1 a2 a3 m hg; exact s_X14_norths_381_b C hE hr159 ih a1 a2 a3 m hg
theorem s_X14_norths_373 {w : rf_w} {K : rf_K} {r : rf_m} (C : rf_Ctx 14 cX14_norths 8 10 (rf_sh w) K) (hE : rf_End none K (rf_sh w) 0 0 none (rf_MM w r)) {rec159 : Int32 → Int32 → rf_m → Option (rf_m)} {rec189 : Int32 → Int32 → Int32 → rf_m → Option (rf_m)} (hr159 : ∀ (a1 : Int32) (a2 : Int32) (m : rf_m), rec159 a1 a2 m = some r → rf_V 8 (rf_sh w) K 0 0 159 ([(0, .ref 206), (1, .int a1), (2, .int a2)], [], rf_MM w m)) (hr189 : ∀ (a1 : Int32) (a2 : Int32) (a3 : Int32) (m : rf_m), rec189 a1 a2 a3 m = some r → rf_V 8 (rf_sh w) K 0 0 189 ([(0, .ref 206), (1, .int a1), (2, .int a2), (3, .int a3)], [], rf_MM w m)) (a1 : Int32) (a2 : Int32) (a3 : Int32) (m : rf_m) (hg : g_X14_norths_373 w rec159 rec189 a1 a2 a3 m = some r) : rf_V 8 (rf_sh w) K 0 0 373 ([(0, .ref 206), (1, .int a1), (2, .int a2), (3, .int a3)], [], rf_MM w m) := by
  unfold g_X14_norths_373 at hg
  refine rf_seg C [(.iinc 3 1, 3)] (pc' := 376) (S' := ([(3, .int (a3 + 1)), (0, .ref 206), (1, .int a1), (2, .int a2)], [], rf_MM w m)) (by decide +kernel) rfl trivial ?_
  refine rf_goto C (-187) 189 (by decide +kernel) ?_
  refine rf_few [1, 2, 3, 0] rfl ?_
  exact hr189 a1 a2 (a3 + 1) m hg
theorem s_X14_norths_310 {w : rf_w} {K : rf_K} {r : rf_m} (C : rf_Ctx 14 cX14_norths 8 10 (rf_sh w) K) (hE : rf_End none K (rf_sh w) 0 0 none (rf_MM w r)) {rec159 : Int32 → Int32 → rf_m → Option (rf_m)} {rec189 : Int32 → Int32 → Int32 → rf_m → Option (rf_m)} (hr159 : ∀ (a1 : Int32) (a2 : Int32) (m : rf_m), rec159 a1 a2 m = some r → rf_V 8 (rf_sh w) K 0 0 159 ([(0, .ref 206), (1, .int a1), (2, .int a2)], [], rf_MM w m)) (hr189 : ∀ (a1 : Int32) (a2 : Int32) (a3 : Int32) (m : rf_m), rec189 a1 a2 a3 m = some r → rf_V 8 (rf_sh w) K 0 0 189 ([(0, .ref 206), (1, .int a1), (2, .int a2), (3, .int a3)], [], rf_MM w m)) (a1 : Int32) (a2 : Int32) (a3 : Int32) (a4 : Int32) (a5 : Int32) (m : rf_m) (hg : g_X14_norths_310 w rec159 rec189 a1 a2 a3 a4 a5 m = some r) : rf_V 8 (rf_sh w) K 0 0 310 ([(0, .ref 206), (1, .int a1), (2, .int a2), (3, .int a3), (4, .int a4), (5, .int a5)], [], rf_MM w m) := by
  unfold g_X14_norths_310 at hg
  obtain ⟨q0, hg⟩ := rf_g_some hg
  refine rf_seg C [(.aload 0, 1), (.invokeinterface 14 131, 3), (.iload 5, 2), (.iaload, 1), (.iload 2, 1)] (pc' := 318) (S' := ([(0, .ref 206), (1, .int a1), (2, .int a2), (3, .int a3), (4, .int a4), (5, .int a5)], [.int a2, .int (m.1 293 (Int32.toNatClampNeg a5))], rf_MM w m)) (by decide +kernel) rfl (rf_in_of q0) ?_
  refine rf_icmp_ne C 55 373 (by decide +kernel) (fun hc => ?_) (fun hc => ?_)
  · replace hg := (if_neg hc).symm.trans hg
    refine rf_few [0, 1, 2, 3] rfl ?_
    exact s_X14_norths_373 C hE hr159 hr189 a1 a2 a3 m hg
  · replace hg := (if_pos hc).symm.trans hg
    obtain ⟨q1, hg⟩ := rf_g_some hg
    refine rf_seg C [(.aload 0, 1), (.invokeinterface 14 131, 3), (.iload 4, 2), (.iaload, 1), (.iconst (-1), 1)] (pc' := 329) (S' := ([(0, .ref 206), (1, .int a1), (2, .int a2), (3, .int a3), (4, .int a4), (5, .int a5)], [.int ((-1)), .int (m.1 293 (Int32.toNatClampNeg a4))], rf_MM w m)) (by decide +kernel) rfl (rf_in_of q1) ?_
    refine rf_icmp_ne C 44 373 (by decide +kernel) (fun hc => ?_) (fun hc => ?_)
    · replace hg := (if_neg hc).symm.trans hg
      refine rf_few [0, 1, 2, 3] rfl ?_
      exact s_X14_norths_373 C hE hr159 hr189 a1 a2 a3 m hg
    · replace hg := (if_pos hc).symm.trans hg
      obtain ⟨q2, hg⟩ := rf_g_some hg
      obtain ⟨q3, hg⟩ := rf_g_some hg
      obtain ⟨q4, hg⟩ := rf_g_some hg
      obtain ⟨q5, hg⟩ := rf_g_some hg
      obtain ⟨q6, hg⟩ := rf_g_some hg
      refine rf_seg C [(.aload 0, 1), (.aload 0, 1), (.invokeinterface 14 21, 3), (.iload 3, 1), (.iaload, 1), (.aload 0, 1), (.invokeinterface 14 22, 3), (.iload 3, 1), (.iaload, 1), (.aload 0, 1), (.invokeinterface 14 132, 3), (.iload 5, 2), (.iaload, 1), (.iload 3, 1), (.aload 0, 1), (.invokeinterface 14 130, 3), (.iload 5, 2), (.iaload, 1), (.aload 0, 1), (.invokeinterface 14 71, 3), (.iload 3, 1), (.iaload, 1), (.isub, 1)] (pc' := 367) (S' := ([(0, .ref 206), (1, .int a1), (2, .int a2), (3, .int a3), (4, .int a4), (5, .int a5)], [.int ((m.1 292 (Int32.toNatClampNeg a5)) - (m.1 248 (Int32.toNatClampNeg a3))), .int a3, .int (m.1 294 (Int32.toNatClampNeg a5)), .int (m.1 218 (Int32.toNatClampNeg a3)), .int (m.1 217 (Int32.toNatClampNeg a3)), .ref 206], rf_MM w m)) (by decide +kernel) rfl (by exact ⟨(rf_in_of q2), (rf_in_of q3), (rf_in_of q4), (rf_in_of q5), (rf_in_of q6)⟩) ?_
      obtain ⟨y7, m7, hc7, hg⟩ := rf_b_some hg
      refine rf_calls C rf_fit0 j_X14_rounded (As := [.int ((m.1 292 (Int32.toNatClampNeg a5)) - (m.1 248 (Int32.toNatClampNeg a3)))]) (rest := [.int a3, .int (m.1 294 (Int32.toNatClampNeg a5)), .int (m.1 218 (Int32.toNatClampNeg a3)), .int (m.1 217 (Int32.toNatClampNeg a3)), .ref 206]) mw_X14_rounded (c_X14_rounded hc7) (by decide) lk_14_877 rfl rfl (Nat.le_of_ble_eq_true rfl) (by decide +kernel) ?_
      show rf_V 8 (rf_sh w) K 0 0 370 ([(0, .ref 206), (1, .int a1), (2, .int a2), (3, .int a3), (4, .int a4), (5, .int a5)], [.int y7, .int a3, .int (m.1 294 (Int32.toNatClampNeg a5)), .int (m.1 218 (Int32.toNatClampNeg a3)), .int (m.1 217 (Int32.toNatClampNeg a3)), .ref 206], rf_MM w m7)
      obtain ⟨m8, hc8, hg⟩ := rf_bv_some hg
      refine rf_callv C rf_fit0 j_X14_offers (ci := 14) (As := [.int (m.1 217 (Int32.toNatClampNeg a3)), .int (m.1 218 (Int32.toNatClampNeg a3)), .int (m.1 294 (Int32.toNatClampNeg a5)), .int a3, .int y7]) (rest := []) mw_X14_offers (c_X14_offers hc8) (by decide) rfl (by decide) lk_14_883 rfl rfl (Nat.le_of_ble_eq_true rfl) (by decide +kernel) ?_
      show rf_V 8 (rf_sh w) K 0 0 373 ([(0, .ref 206), (1, .int a1), (2, .int a2), (3, .int a3), (4, .int a4), (5, .int a5)], [], rf_MM w m8)
      refine rf_few [0, 1, 2, 3] rfl ?_
      exact s_X14_norths_373 C hE hr159 hr189 a1 a2 a3 m8 hg
theorem s_X14_norths_189_b {w : rf_w} {K : rf_K} {r : rf_m} (C : rf_Ctx 14 cX14_norths 8 10 (rf_sh w) K) (hE : rf_End none K (rf_sh w) 0 0 none (rf_MM w r)) {rec159 : Int32 → Int32 → rf_m → Option (rf_m)} {rec189 : Int32 → Int32 → Int32 → rf_m → Option (rf_m)} (hr159 : ∀ (a1 : Int32) (a2 : Int32) (m : rf_m), rec159 a1 a2 m = some r → rf_V 8 (rf_sh w) K 0 0 159 ([(0, .ref 206), (1, .int a1), (2, .int a2)], [], rf_MM w m)) (hr189 : ∀ (a1 : Int32) (a2 : Int32) (a3 : Int32) (m : rf_m), rec189 a1 a2 a3 m = some r → rf_V 8 (rf_sh w) K 0 0 189 ([(0, .ref 206), (1, .int a1), (2, .int a2), (3, .int a3)], [], rf_MM w m)) (a1 : Int32) (a2 : Int32) (a3 : Int32) (m : rf_m) (hg : g_X14_norths_189_b w rec159 rec189 a1 a2 a3 m = some r) : rf_V 8 (rf_sh w) K 0 0 189 ([(0, .ref 206), (1, .int a1), (2, .int a2), (3, .int a3)], [], rf_MM w m) := by
  unfold g_X14_norths_189_b at hg
  refine rf_seg C [(.iload 3, 1), (.aload 0, 1), (.invokeinterface 14 16, 3)] (pc' := 194) (S' := ([(0, .ref 206), (1, .int a1), (2, .int a2), (3, .int a3)], [.int (m.1 206 16), .int a3], rf_MM w m)) (by decide +kernel) rfl trivial ?_
  refine rf_icmp_ge C 185 379 (by decide +kernel) (fun hc => ?_) (fun hc => ?_)
  · replace hg := (if_pos hc).symm.trans hg
    refine rf_seg C [(.iconst 0, 1), (.istore 3, 1)] (pc' := 381) (S' := ([(3, .int 0), (0, .ref 206), (1, .int a1), (2, .int a2)], [], rf_MM w m)) (by decide +kernel) rfl trivial ?_
    refine rf_few [1, 2, 3, 0] rfl ?_
    exact s_X14_norths_381 C hE hr159 rf_fuel a1 a2 0 m hg
  · replace hg := (if_neg hc).symm.trans hg
    obtain ⟨q0, hg⟩ := rf_g_some hg
    refine rf_seg C [(.aload 0, 1), (.invokeinterface 14 71, 3), (.iload 3, 1), (.iaload, 1), (.iconst (-2), 2)] (pc' := 205) (S' := ([(0, .ref 206), (1, .int a1), (2, .int a2), (3, .int a3)], [.int ((-2)), .int (m.1 248 (Int32.toNatClampNeg a3))], rf_MM w m)) (by decide +kernel) rfl (rf_in_of q0) ?_
    refine rf_icmp_ne C 6 211 (by decide +kernel) (fun hc => ?_) (fun hc => ?_)
    · replace hg := (if_neg hc).symm.trans hg
      obtain ⟨q1, hg⟩ := rf_g_some hg
      obtain ⟨q2, hg⟩ := rf_g_some hg
      refine rf_seg C [(.iconst 30, 2), (.aload 0, 1), (.invokeinterface 14 21, 3), (.iload 3, 1), (.iaload, 1), (.imul, 1), (.aload 0, 1), (.invokeinterface 14 22, 3), (.iload 3, 1), (.iaload, 1), (.iadd, 1)] (pc' := 227) (S' := ([(0, .ref 206), (1, .int a1), (2, .int a2), (3, .int a3)], [.int ((30 * (m.1 217 (Int32.toNatClampNeg a3))) + (m.1 218 (Int32.toNatClampNeg a3)))], rf_MM w m)) (by decide +kernel) rfl (by exact ⟨(rf_in_of q1), (rf_in_of q2)⟩) ?_
      obtain ⟨x3, hx3, hg⟩ := rf_vi_some hg
      refine rf_vi_top hx3 ?_
      obtain ⟨q4, hg⟩ := rf_g_some hg
      obtain ⟨q5, hg⟩ := rf_g_some hg
      refine rf_seg C [(.istore 4, 2), (.iconst 30, 2), (.aload 0, 1), (.invokeinterface 14 21, 3), (.iload 3, 1), (.iaload, 1), (.imul, 1), (.aload 0, 1), (.invokeinterface 14 23, 3), (.iload 3, 1), (.iaload, 1), (.iadd, 1)] (pc' := 245) (S' := ([(4, .int x3), (0, .ref 206), (1, .int a1), (2, .int a2), (3, .int a3)], [.int ((30 * (m.1 217 (Int32.toNatClampNeg a3))) + (m.1 219 (Int32.toNatClampNeg a3)))], rf_MM w m)) (by decide +kernel) rfl (by exact ⟨(rf_in_of q4), (rf_in_of q5)⟩) ?_
      obtain ⟨x6, hx6, hg⟩ := rf_vi_some hg
      refine rf_vi_top hx6 ?_
      obtain ⟨q7, hg⟩ := rf_g_some hg
      refine rf_seg C [(.istore 5, 2), (.aload 0, 1), (.invokeinterface 14 131, 3), (.iload 4, 2), (.iaload, 1), (.iload 2, 1)] (pc' := 255) (S' := ([(5, .int x6), (4, .int x3), (0, .ref 206), (1, .int a1), (2, .int a2), (3, .int a3)], [.int a2, .int (m.1 293 (Int32.toNatClampNeg x3))], rf_MM w m)) (by decide +kernel) rfl (rf_in_of q7) ?_
      refine rf_icmp_ne C 55 310 (by decide +kernel) (fun hc => ?_) (fun hc => ?_)
      · replace hg := (if_neg hc).symm.trans hg
        refine rf_few [2, 3, 4, 5, 1, 0] rfl ?_
        exact s_X14_norths_310 C hE hr159 hr189 a1 a2 a3 x3 x6 m hg
      · replace hg := (if_pos hc).symm.trans hg
        obtain ⟨q8, hg⟩ := rf_g_some hg
        refine rf_seg C [(.aload 0, 1), (.invokeinterface 14 131, 3), (.iload 5, 2), (.iaload, 1), (.iconst (-1), 1)] (pc' := 266) (S' := ([(5, .int x6), (4, .int x3), (0, .ref 206), (1, .int a1), (2, .int a2), (3, .int a3)], [.int ((-1)), .int (m.1 293 (Int32.toNatClampNeg x6))], rf_MM w m)) (by decide +kernel) rfl (rf_in_of q8) ?_
        refine rf_icmp_ne C 44 310 (by decide +kernel) (fun hc => ?_) (fun hc => ?_)
        · replace hg := (if_neg hc).symm.trans hg
          refine rf_few [2, 3, 4, 5, 1, 0] rfl ?_
          exact s_X14_norths_310 C hE hr159 hr189 a1 a2 a3 x3 x6 m hg
        · replace hg := (if_pos hc).symm.trans hg
          obtain ⟨q9, hg⟩ := rf_g_some hg
          obtain ⟨q10, hg⟩ := rf_g_some hg
          obtain ⟨q11, hg⟩ := rf_g_some hg
          obtain ⟨q12, hg⟩ := rf_g_some hg
          obtain ⟨q13, hg⟩ := rf_g_some hg
          refine rf_seg C [(.aload 0, 1), (.aload 0, 1), (.invokeinterface 14 21, 3), (.iload 3, 1), (.iaload, 1), (.aload 0, 1), (.invokeinterface 14 23, 3), (.iload 3, 1), (.iaload, 1), (.aload 0, 1), (.invokeinterface 14 132, 3), (.iload 4, 2), (.iaload, 1), (.iload 3, 1), (.aload 0, 1), (.invokeinterface 14 130, 3), (.iload 4, 2), (.iaload, 1), (.aload 0, 1), (.invokeinterface 14 71, 3), (.iload 3, 1), (.iaload, 1), (.iadd, 1)] (pc' := 304) (S' := ([(5, .int x6), (4, .int x3), (0, .ref 206), (1, .int a1), (2, .int a2), (3, .int a3)], [.int ((m.1 292 (Int32.toNatClampNeg x3)) + (m.1 248 (Int32.toNatClampNeg a3))), .int a3, .int (m.1 294 (Int32.toNatClampNeg x3)), .int (m.1 219 (Int32.toNatClampNeg a3)), .int (m.1 217 (Int32.toNatClampNeg a3)), .ref 206], rf_MM w m)) (by decide +kernel) rfl (by exact ⟨(rf_in_of q9), (rf_in_of q10), (rf_in_of q11), (rf_in_of q12), (rf_in_of q13)⟩) ?_
          obtain ⟨y14, m14, hc14, hg⟩ := rf_b_some hg
          refine rf_calls C rf_fit0 j_X14_rounded (As := [.int ((m.1 292 (Int32.toNatClampNeg x3)) + (m.1 248 (Int32.toNatClampNeg a3)))]) (rest := [.int a3, .int (m.1 294 (Int32.toNatClampNeg x3)), .int (m.1 219 (Int32.toNatClampNeg a3)), .int (m.1 217 (Int32.toNatClampNeg a3)), .ref 206]) mw_X14_rounded (c_X14_rounded hc14) (by decide) lk_14_877 rfl rfl (Nat.le_of_ble_eq_true rfl) (by decide +kernel) ?_
          show rf_V 8 (rf_sh w) K 0 0 307 ([(5, .int x6), (4, .int x3), (0, .ref 206), (1, .int a1), (2, .int a2), (3, .int a3)], [.int y14, .int a3, .int (m.1 294 (Int32.toNatClampNeg x3)), .int (m.1 219 (Int32.toNatClampNeg a3)), .int (m.1 217 (Int32.toNatClampNeg a3)), .ref 206], rf_MM w m14)
          obtain ⟨m15, hc15, hg⟩ := rf_bv_some hg
          refine rf_callv C rf_fit0 j_X14_offers (ci := 14) (As := [.int (m.1 217 (Int32.toNatClampNeg a3)), .int (m.1 219 (Int32.toNatClampNeg a3)), .int (m.1 294 (Int32.toNatClampNeg x3)), .int a3, .int y14]) (rest := []) mw_X14_offers (c_X14_offers hc15) (by decide) rfl (by decide) lk_14_883 rfl rfl (Nat.le_of_ble_eq_true rfl) (by decide +kernel) ?_
          show rf_V 8 (rf_sh w) K 0 0 310 ([(5, .int x6), (4, .int x3), (0, .ref 206), (1, .int a1), (2, .int a2), (3, .int a3)], [], rf_MM w m15)
          refine rf_few [2, 3, 4, 5, 1, 0] rfl ?_
          exact s_X14_norths_310 C hE hr159 hr189 a1 a2 a3 x3 x6 m15 hg
    · replace hg := (if_pos hc).symm.trans hg
      refine rf_goto C 165 373 (by decide +kernel) ?_
      refine rf_few [0, 1, 2, 3] rfl ?_
      exact s_X14_norths_373 C hE hr159 hr189 a1 a2 a3 m hg
theorem s_X14_norths_189 {w : rf_w} {K : rf_K} {r : rf_m} (C : rf_Ctx 14 cX14_norths 8 10 (rf_sh w) K) (hE : rf_End none K (rf_sh w) 0 0 none (rf_MM w r)) {rec159 : Int32 → Int32 → rf_m → Option (rf_m)} (hr159 : ∀ (a1 : Int32) (a2 : Int32) (m : rf_m), rec159 a1 a2 m = some r → rf_V 8 (rf_sh w) K 0 0 159 ([(0, .ref 206), (1, .int a1), (2, .int a2)], [], rf_MM w m)) (n : Nat) : ∀ (a1 : Int32) (a2 : Int32) (a3 : Int32) (m : rf_m), g_X14_norths_189 w rec159 n a1 a2 a3 m = some r → rf_V 8 (rf_sh w) K 0 0 189 ([(0, .ref 206), (1, .int a1), (2, .int a2), (3, .int a3)], [], rf_MM w m) := by
  induction n with
  | zero => intro a1 a2 a3 m hg; cases hg
  | succ n ih => intro a1 a2 a3 m hg; exact s_X14_norths_189_b C hE hr159 ih a1 a2 a3 m hg
theorem s_X14_norths_167_b {w : rf_w} {K : rf_K} {r : rf_m} (C : rf_Ctx 14 cX14_norths 8 10 (rf_sh w) K) (hE : rf_End none K (rf_sh w) 0 0 none (rf_MM w r)) {rec159 : Int32 → Int32 → rf_m → Option (rf_m)} {rec167 : Int32 → Int32 → Int32 → rf_m → Option (rf_m)} (hr159 : ∀ (a1 : Int32) (a2 : Int32) (m : rf_m), rec159 a1 a2 m = some r → rf_V 8 (rf_sh w) K 0 0 159 ([(0, .ref 206), (1, .int a1), (2, .int a2)], [], rf_MM w m)) (hr167 : ∀ (a1 : Int32) (a2 : Int32) (a3 : Int32) (m : rf_m), rec167 a1 a2 a3 m = some r → rf_V 8 (rf_sh w) K 0 0 167 ([(0, .ref 206), (1, .int a1), (2, .int a2), (3, .int a3)], [], rf_MM w m)) (a1 : Int32) (a2 : Int32) (a3 : Int32) (m : rf_m) (hg : g_X14_norths_167_b w rec159 rec167 a1 a2 a3 m = some r) : rf_V 8 (rf_sh w) K 0 0 167 ([(0, .ref 206), (1, .int a1), (2, .int a2), (3, .int a3)], [], rf_MM w m) := by
  unfold g_X14_norths_167_b at hg
  refine rf_seg C [(.iload 3, 1), (.iconst 900, 3)] (pc' := 171) (S' := ([(0, .ref 206), (1, .int a1), (2, .int a2), (3, .int a3)], [.int 900, .int a3], rf_MM w m)) (by decide +kernel) rfl trivial ?_
  refine rf_icmp_ge C 16 187 (by decide +kernel) (fun hc => ?_) (fun hc => ?_)
  · replace hg := (if_pos hc).symm.trans hg
    refine rf_seg C [(.iconst 0, 1), (.istore 3, 1)] (pc' := 189) (S' := ([(3, .int 0), (0, .ref 206), (1, .int a1), (2, .int a2)], [], rf_MM w m)) (by decide +kernel) rfl trivial ?_
    refine rf_few [1, 2, 3, 0] rfl ?_
    exact s_X14_norths_189 C hE hr159 rf_fuel a1 a2 0 m hg
  · replace hg := (if_neg hc).symm.trans hg
    obtain ⟨q0, hg⟩ := rf_g_some hg
    refine rf_seg C [(.aload 0, 1), (.invokeinterface 14 134, 3), (.iload 3, 1), (.iconst (-1), 1), (.iastore, 1), (.iinc 3 1, 3)] (pc' := 184) (S' := ([(3, .int (a3 + 1)), (0, .ref 206), (1, .int a1), (2, .int a2)], [], rf_MM w (rf_i m 296 (Int32.toNatClampNeg a3) ((-1))))) (by decide +kernel) rfl (rf_in_of q0) ?_
    refine rf_goto C (-17) 167 (by decide +kernel) ?_
    refine rf_few [1, 2, 3, 0] rfl ?_
    exact hr167 a1 a2 (a3 + 1) (rf_i m 296 (Int32.toNatClampNeg a3) ((-1))) hg
theorem s_X14_norths_167 {w : rf_w} {K : rf_K} {r : rf_m} (C : rf_Ctx 14 cX14_norths 8 10 (rf_sh w) K) (hE : rf_End none K (rf_sh w) 0 0 none (rf_MM w r)) {rec159 : Int32 → Int32 → rf_m → Option (rf_m)} (hr159 : ∀ (a1 : Int32) (a2 : Int32) (m : rf_m), rec159 a1 a2 m = some r → rf_V 8 (rf_sh w) K 0 0 159 ([(0, .ref 206), (1, .int a1), (2, .int a2)], [], rf_MM w m)) (n : Nat) : ∀ (a1 : Int32) (a2 : Int32) (a3 : Int32) (m : rf_m), g_X14_norths_167 w rec159 n a1 a2 a3 m = some r → rf_V 8 (rf_sh w) K 0 0 167 ([(0, .ref 206), (1, .int a1), (2, .int a2), (3, .int a3)], [], rf_MM w m) := by
  induction n with
  | zero => intro a1 a2 a3 m hg; cases hg
  | succ n ih => intro a1 a2 a3 m hg; exact s_X14_norths_167_b C hE hr159 ih a1 a2 a3 m hg
theorem s_X14_norths_159_b {w : rf_w} {K : rf_K} {r : rf_m} (C : rf_Ctx 14 cX14_norths 8 10 (rf_sh w) K) (hE : rf_End none K (rf_sh w) 0 0 none (rf_MM w r)) {rec159 : Int32 → Int32 → rf_m → Option (rf_m)} (hr159 : ∀ (a1 : Int32) (a2 : Int32) (m : rf_m), rec159 a1 a2 m = some r → rf_V 8 (rf_sh w) K 0 0 159 ([(0, .ref 206), (1, .int a1), (2, .int a2)], [], rf_MM w m)) (a1 : Int32) (a2 : Int32) (m : rf_m) (hg : g_X14_norths_159_b w rec159 a1 a2 m = some r) : rf_V 8 (rf_sh w) K 0 0 159 ([(0, .ref 206), (1, .int a1), (2, .int a2)], [], rf_MM w m) := by
  unfold g_X14_norths_159_b at hg
  refine rf_seg C [(.iload 1, 1)] (pc' := 160) (S' := ([(0, .ref 206), (1, .int a1), (2, .int a2)], [.int a1], rf_MM w m)) (by decide +kernel) rfl trivial ?_
  refine rf_if_eq C 397 557 (by decide +kernel) (fun hc => ?_) (fun hc => ?_)
  · replace hg := (if_pos hc).symm.trans hg
    obtain rfl := Option.some.inj hg
    exact rf_vret C hE (by decide +kernel)
  · replace hg := (if_neg hc).symm.trans hg
    refine rf_seg C [(.iconst 0, 1), (.istore 1, 1), (.iconst 0, 1), (.istore 3, 1)] (pc' := 167) (S' := ([(3, .int 0), (1, .int 0), (0, .ref 206), (2, .int a2)], [], rf_MM w m)) (by decide +kernel) rfl trivial ?_
    refine rf_few [2, 1, 3, 0] rfl ?_
    exact s_X14_norths_167 C hE hr159 rf_fuel 0 a2 0 m hg
theorem s_X14_norths_159 {w : rf_w} {K : rf_K} {r : rf_m} (C : rf_Ctx 14 cX14_norths 8 10 (rf_sh w) K) (hE : rf_End none K (rf_sh w) 0 0 none (rf_MM w r)) (n : Nat) : ∀ (a1 : Int32) (a2 : Int32) (m : rf_m), g_X14_norths_159 w n a1 a2 m = some r → rf_V 8 (rf_sh w) K 0 0 159 ([(0, .ref 206), (1, .int a1), (2, .int a2)], [], rf_MM w m) := by
  induction n with
  | zero => intro a1 a2 m hg; cases hg
  | succ n ih => intro a1 a2 m hg; exact s_X14_norths_159_b C hE ih a1 a2 m hg
theorem s_X14_norths_139 {w : rf_w} {K : rf_K} {r : rf_m} (C : rf_Ctx 14 cX14_norths 8 10 (rf_sh w) K) (hE : rf_End none K (rf_sh w) 0 0 none (rf_MM w r)) {rec2 : Int32 → rf_m → Option (rf_m)} {rec12 : Int32 → Int32 → rf_m → Option (rf_m)} (hr2 : ∀ (a1 : Int32) (m : rf_m), rec2 a1 m = some r → rf_V 8 (rf_sh w) K 0 0 2 ([(0, .ref 206), (1, .int a1)], [], rf_MM w m)) (hr12 : ∀ (a1 : Int32) (a2 : Int32) (m : rf_m), rec12 a1 a2 m = some r → rf_V 8 (rf_sh w) K 0 0 12 ([(0, .ref 206), (1, .int a1), (2, .int a2)], [], rf_MM w m)) (a1 : Int32) (a2 : Int32) (m : rf_m) (hg : g_X14_norths_139 w rec2 rec12 a1 a2 m = some r) : rf_V 8 (rf_sh w) K 0 0 139 ([(0, .ref 206), (1, .int a1), (2, .int a2)], [], rf_MM w m) := by
  unfold g_X14_norths_139 at hg
  refine rf_seg C [(.iinc 2 1, 3)] (pc' := 142) (S' := ([(2, .int (a2 + 1)), (0, .ref 206), (1, .int a1)], [], rf_MM w m)) (by decide +kernel) rfl trivial ?_
  refine rf_goto C (-130) 12 (by decide +kernel) ?_
  refine rf_few [1, 2, 0] rfl ?_
  exact hr12 a1 (a2 + 1) m hg
theorem s_X14_norths_138 {w : rf_w} {K : rf_K} {r : rf_m} (C : rf_Ctx 14 cX14_norths 8 10 (rf_sh w) K) (hE : rf_End none K (rf_sh w) 0 0 none (rf_MM w r)) {rec2 : Int32 → rf_m → Option (rf_m)} {rec12 : Int32 → Int32 → rf_m → Option (rf_m)} (hr2 : ∀ (a1 : Int32) (m : rf_m), rec2 a1 m = some r → rf_V 8 (rf_sh w) K 0 0 2 ([(0, .ref 206), (1, .int a1)], [], rf_MM w m)) (hr12 : ∀ (a1 : Int32) (a2 : Int32) (m : rf_m), rec12 a1 a2 m = some r → rf_V 8 (rf_sh w) K 0 0 12 ([(0, .ref 206), (1, .int a1), (2, .int a2)], [], rf_MM w m)) (a1 : Int32) (a2 : Int32) (s1 : Int32) (s2 : Int32) (m : rf_m) (hg : g_X14_norths_138 w rec2 rec12 a1 a2 s1 s2 m = some r) : rf_V 8 (rf_sh w) K 0 0 138 ([(0, .ref 206), (1, .int a1), (2, .int a2)], [.int s2, .int s1, .ref 294], rf_MM w m) := by
  unfold g_X14_norths_138 at hg
  obtain ⟨q0, hg⟩ := rf_g_some hg
  refine rf_seg C [(.iastore, 1)] (pc' := 139) (S' := ([(0, .ref 206), (1, .int a1), (2, .int a2)], [], rf_MM w (rf_i m 294 (Int32.toNatClampNeg s1) s2))) (by decide +kernel) rfl (rf_in_of q0) ?_
  refine rf_few [0, 1, 2] rfl ?_
  exact s_X14_norths_139 C hE hr2 hr12 a1 a2 (rf_i m 294 (Int32.toNatClampNeg s1) s2) hg
theorem s_X14_norths_120 {w : rf_w} {K : rf_K} {r : rf_m} (C : rf_Ctx 14 cX14_norths 8 10 (rf_sh w) K) (hE : rf_End none K (rf_sh w) 0 0 none (rf_MM w r)) {rec2 : Int32 → rf_m → Option (rf_m)} {rec12 : Int32 → Int32 → rf_m → Option (rf_m)} (hr2 : ∀ (a1 : Int32) (m : rf_m), rec2 a1 m = some r → rf_V 8 (rf_sh w) K 0 0 2 ([(0, .ref 206), (1, .int a1)], [], rf_MM w m)) (hr12 : ∀ (a1 : Int32) (a2 : Int32) (m : rf_m), rec12 a1 a2 m = some r → rf_V 8 (rf_sh w) K 0 0 12 ([(0, .ref 206), (1, .int a1), (2, .int a2)], [], rf_MM w m)) (a1 : Int32) (a2 : Int32) (a3 : Int32) (a4 : Int32) (s1 : Int32) (s2 : Int32) (m : rf_m) (hg : g_X14_norths_120 w rec2 rec12 a1 a2 a3 a4 s1 s2 m = some r) : rf_V 8 (rf_sh w) K 0 0 120 ([(0, .ref 206), (1, .int a1), (2, .int a2), (3, .int a3), (4, .int a4)], [.int s2, .int s1, .ref 292], rf_MM w m) := by
  unfold g_X14_norths_120 at hg
  obtain ⟨q0, hg⟩ := rf_g_some hg
  refine rf_seg C [(.iastore, 1), (.aload 0, 1), (.invokeinterface 14 132, 3), (.iload 3, 1), (.iload 4, 2), (.iconst (-2), 2)] (pc' := 130) (S' := ([(0, .ref 206), (1, .int a1), (2, .int a2), (3, .int a3), (4, .int a4)], [.int ((-2)), .int a4, .int a3, .ref 294], rf_MM w (rf_i m 292 (Int32.toNatClampNeg s1) s2))) (by decide +kernel) rfl (rf_in_of q0) ?_
  refine rf_icmp_eq C 7 137 (by decide +kernel) (fun hc => ?_) (fun hc => ?_)
  · replace hg := (if_pos hc).symm.trans hg
    refine rf_seg C [(.iload 2, 1)] (pc' := 138) (S' := ([(0, .ref 206), (1, .int a1), (2, .int a2), (3, .int a3), (4, .int a4)], [.int a2, .int a3, .ref 294], rf_MM w (rf_i m 292 (Int32.toNatClampNeg s1) s2))) (by decide +kernel) rfl trivial ?_
    refine rf_few [0, 1, 2] rfl ?_
    exact s_X14_norths_138 C hE hr2 hr12 a1 a2 a3 a2 (rf_i m 292 (Int32.toNatClampNeg s1) s2) hg
  · replace hg := (if_neg hc).symm.trans hg
    refine rf_seg C [(.iload 1, 1)] (pc' := 134) (S' := ([(0, .ref 206), (1, .int a1), (2, .int a2), (3, .int a3), (4, .int a4)], [.int a1, .int a3, .ref 294], rf_MM w (rf_i m 292 (Int32.toNatClampNeg s1) s2))) (by decide +kernel) rfl trivial ?_
    refine rf_goto C 4 138 (by decide +kernel) ?_
    refine rf_few [0, 1, 2] rfl ?_
    exact s_X14_norths_138 C hE hr2 hr12 a1 a2 a3 a1 (rf_i m 292 (Int32.toNatClampNeg s1) s2) hg
theorem s_X14_norths_87 {w : rf_w} {K : rf_K} {r : rf_m} (C : rf_Ctx 14 cX14_norths 8 10 (rf_sh w) K) (hE : rf_End none K (rf_sh w) 0 0 none (rf_MM w r)) {rec2 : Int32 → rf_m → Option (rf_m)} {rec12 : Int32 → Int32 → rf_m → Option (rf_m)} (hr2 : ∀ (a1 : Int32) (m : rf_m), rec2 a1 m = some r → rf_V 8 (rf_sh w) K 0 0 2 ([(0, .ref 206), (1, .int a1)], [], rf_MM w m)) (hr12 : ∀ (a1 : Int32) (a2 : Int32) (m : rf_m), rec12 a1 a2 m = some r → rf_V 8 (rf_sh w) K 0 0 12 ([(0, .ref 206), (1, .int a1), (2, .int a2)], [], rf_MM w m)) (a1 : Int32) (a2 : Int32) (a3 : Int32) (a4 : Int32) (a5 : Int32) (m : rf_m) (hg : g_X14_norths_87 w rec2 rec12 a1 a2 a3 a4 a5 m = some r) : rf_V 8 (rf_sh w) K 0 0 87 ([(0, .ref 206), (1, .int a1), (2, .int a2), (3, .int a3), (4, .int a4), (5, .int a5)], [], rf_MM w m) := by
  unfold g_X14_norths_87 at hg
  obtain ⟨q0, hg⟩ := rf_g_some hg
  refine rf_seg C [(.aload 0, 1), (.invokeinterface 14 131, 3), (.iload 3, 1), (.iconst 0, 1), (.iastore, 1), (.aload 0, 1), (.invokeinterface 14 130, 3), (.iload 3, 1), (.iload 4, 2), (.iconst (-2), 2)] (pc' := 103) (S' := ([(0, .ref 206), (1, .int a1), (2, .int a2), (3, .int a3), (4, .int a4), (5, .int a5)], [.int ((-2)), .int a4, .int a3, .ref 292], rf_MM w (rf_i m 293 (Int32.toNatClampNeg a3) 0))) (by decide +kernel) rfl (rf_in_of q0) ?_
  refine rf_icmp_eq C 8 111 (by decide +kernel) (fun hc => ?_) (fun hc => ?_)
  · replace hg := (if_pos hc).symm.trans hg
    refine rf_seg C [(.iload 5, 2), (.iconst 6480000, 3), (.iadd, 1)] (pc' := 117) (S' := ([(0, .ref 206), (1, .int a1), (2, .int a2), (3, .int a3), (4, .int a4), (5, .int a5)], [.int (a5 + 6480000), .int a3, .ref 292], rf_MM w (rf_i m 293 (Int32.toNatClampNeg a3) 0))) (by decide +kernel) rfl trivial ?_
    obtain ⟨y1, m1, hc1, hg⟩ := rf_b_some hg
    refine rf_calls C rf_fit0 j_X14_rounded (As := [.int (a5 + 6480000)]) (rest := [.int a3, .ref 292]) mw_X14_rounded (c_X14_rounded hc1) (by decide) lk_14_877 rfl rfl (Nat.le_of_ble_eq_true rfl) (by decide +kernel) ?_
    show rf_V 8 (rf_sh w) K 0 0 120 ([(0, .ref 206), (1, .int a1), (2, .int a2), (3, .int a3), (4, .int a4), (5, .int a5)], [.int y1, .int a3, .ref 292], rf_MM w m1)
    refine rf_few [0, 1, 2, 3, 4] rfl ?_
    exact s_X14_norths_120 C hE hr2 hr12 a1 a2 a3 a4 a3 y1 m1 hg
  · replace hg := (if_neg hc).symm.trans hg
    refine rf_seg C [(.iload 4, 2)] (pc' := 108) (S' := ([(0, .ref 206), (1, .int a1), (2, .int a2), (3, .int a3), (4, .int a4), (5, .int a5)], [.int a4, .int a3, .ref 292], rf_MM w (rf_i m 293 (Int32.toNatClampNeg a3) 0))) (by decide +kernel) rfl trivial ?_
    refine rf_goto C 12 120 (by decide +kernel) ?_
    refine rf_few [0, 1, 2, 3, 4] rfl ?_
    exact s_X14_norths_120 C hE hr2 hr12 a1 a2 a3 a4 a3 a4 (rf_i m 293 (Int32.toNatClampNeg a3) 0) hg
theorem s_X14_norths_68 {w : rf_w} {K : rf_K} {r : rf_m} (C : rf_Ctx 14 cX14_norths 8 10 (rf_sh w) K) (hE : rf_End none K (rf_sh w) 0 0 none (rf_MM w r)) {rec2 : Int32 → rf_m → Option (rf_m)} {rec12 : Int32 → Int32 → rf_m → Option (rf_m)} (hr2 : ∀ (a1 : Int32) (m : rf_m), rec2 a1 m = some r → rf_V 8 (rf_sh w) K 0 0 2 ([(0, .ref 206), (1, .int a1)], [], rf_MM w m)) (hr12 : ∀ (a1 : Int32) (a2 : Int32) (m : rf_m), rec12 a1 a2 m = some r → rf_V 8 (rf_sh w) K 0 0 12 ([(0, .ref 206), (1, .int a1), (2, .int a2)], [], rf_MM w m)) (a1 : Int32) (a2 : Int32) (a3 : Int32) (a4 : Int32) (s0 : Int32) (m : rf_m) (hg : g_X14_norths_68 w rec2 rec12 a1 a2 a3 a4 s0 m = some r) : rf_V 8 (rf_sh w) K 0 0 68 ([(0, .ref 206), (1, .int a1), (2, .int a2), (3, .int a3), (4, .int a4)], [.int s0], rf_MM w m) := by
  unfold g_X14_norths_68 at hg
  refine rf_seg C [(.istore 5, 2), (.iload 4, 2), (.iconst (-2), 2)] (pc' := 74) (S' := ([(5, .int s0), (0, .ref 206), (1, .int a1), (2, .int a2), (3, .int a3), (4, .int a4)], [.int ((-2)), .int a4], rf_MM w m)) (by decide +kernel) rfl trivial ?_
  refine rf_icmp_ne C 13 87 (by decide +kernel) (fun hc => ?_) (fun hc => ?_)
  · replace hg := (if_neg hc).symm.trans hg
    refine rf_few [1, 2, 3, 4, 5, 0] rfl ?_
    exact s_X14_norths_87 C hE hr2 hr12 a1 a2 a3 a4 s0 m hg
  · replace hg := (if_pos hc).symm.trans hg
    refine rf_seg C [(.iload 5, 2), (.iconst (-2), 2)] (pc' := 81) (S' := ([(5, .int s0), (0, .ref 206), (1, .int a1), (2, .int a2), (3, .int a3), (4, .int a4)], [.int ((-2)), .int s0], rf_MM w m)) (by decide +kernel) rfl trivial ?_
    refine rf_icmp_ne C 6 87 (by decide +kernel) (fun hc => ?_) (fun hc => ?_)
    · replace hg := (if_neg hc).symm.trans hg
      refine rf_few [1, 2, 3, 4, 5, 0] rfl ?_
      exact s_X14_norths_87 C hE hr2 hr12 a1 a2 a3 a4 s0 m hg
    · replace hg := (if_pos hc).symm.trans hg
      refine rf_goto C 55 139 (by decide +kernel) ?_
      refine rf_few [1, 2, 3] rfl ?_
      exact s_X14_norths_139 C hE hr2 hr12 a1 a2 m hg
theorem s_X14_norths_50 {w : rf_w} {K : rf_K} {r : rf_m} (C : rf_Ctx 14 cX14_norths 8 10 (rf_sh w) K) (hE : rf_End none K (rf_sh w) 0 0 none (rf_MM w r)) {rec2 : Int32 → rf_m → Option (rf_m)} {rec12 : Int32 → Int32 → rf_m → Option (rf_m)} (hr2 : ∀ (a1 : Int32) (m : rf_m), rec2 a1 m = some r → rf_V 8 (rf_sh w) K 0 0 2 ([(0, .ref 206), (1, .int a1)], [], rf_MM w m)) (hr12 : ∀ (a1 : Int32) (a2 : Int32) (m : rf_m), rec12 a1 a2 m = some r → rf_V 8 (rf_sh w) K 0 0 12 ([(0, .ref 206), (1, .int a1), (2, .int a2)], [], rf_MM w m)) (a1 : Int32) (a2 : Int32) (a3 : Int32) (s0 : Int32) (m : rf_m) (hg : g_X14_norths_50 w rec2 rec12 a1 a2 a3 s0 m = some r) : rf_V 8 (rf_sh w) K 0 0 50 ([(0, .ref 206), (1, .int a1), (2, .int a2), (3, .int a3)], [.int s0], rf_MM w m) := by
  unfold g_X14_norths_50 at hg
  refine rf_seg C [(.istore 4, 2), (.iload 1, 1), (.iload 2, 1)] (pc' := 54) (S' := ([(4, .int s0), (0, .ref 206), (1, .int a1), (2, .int a2), (3, .int a3)], [.int a2, .int a1], rf_MM w m)) (by decide +kernel) rfl trivial ?_
  refine rf_icmp_ne C 8 62 (by decide +kernel) (fun hc => ?_) (fun hc => ?_)
  · replace hg := (if_neg hc).symm.trans hg
    refine rf_seg C [(.aload 0, 1), (.iload 2, 1), (.iload 1, 1)] (pc' := 65) (S' := ([(4, .int s0), (0, .ref 206), (1, .int a1), (2, .int a2), (3, .int a3)], [.int a1, .int a2, .ref 206], rf_MM w m)) (by decide +kernel) rfl trivial ?_
    obtain ⟨y0, m0, hc0, hg⟩ := rf_b_some hg
    refine rf_callv C rf_fit0 j_X14_ownNorth (ci := 14) (As := [.int a2, .int a1]) (rest := []) mw_X14_ownNorth (c_X14_ownNorth hc0) (by decide) rfl (by decide) lk_14_880 rfl rfl (Nat.le_of_ble_eq_true rfl) (by decide +kernel) ?_
    show rf_V 8 (rf_sh w) K 0 0 68 ([(4, .int s0), (0, .ref 206), (1, .int a1), (2, .int a2), (3, .int a3)], [.int y0], rf_MM w m0)
    refine rf_few [1, 2, 3, 4, 0] rfl ?_
    exact s_X14_norths_68 C hE hr2 hr12 a1 a2 a3 s0 y0 m0 hg
  · replace hg := (if_pos hc).symm.trans hg
    refine rf_seg C [(.iconst (-2), 2)] (pc' := 59) (S' := ([(4, .int s0), (0, .ref 206), (1, .int a1), (2, .int a2), (3, .int a3)], [.int ((-2))], rf_MM w m)) (by decide +kernel) rfl trivial ?_
    refine rf_goto C 9 68 (by decide +kernel) ?_
    refine rf_few [1, 2, 3, 4, 0] rfl ?_
    exact s_X14_norths_68 C hE hr2 hr12 a1 a2 a3 s0 ((-2)) m hg
theorem s_X14_norths_12_b {w : rf_w} {K : rf_K} {r : rf_m} (C : rf_Ctx 14 cX14_norths 8 10 (rf_sh w) K) (hE : rf_End none K (rf_sh w) 0 0 none (rf_MM w r)) {rec2 : Int32 → rf_m → Option (rf_m)} {rec12 : Int32 → Int32 → rf_m → Option (rf_m)} (hr2 : ∀ (a1 : Int32) (m : rf_m), rec2 a1 m = some r → rf_V 8 (rf_sh w) K 0 0 2 ([(0, .ref 206), (1, .int a1)], [], rf_MM w m)) (hr12 : ∀ (a1 : Int32) (a2 : Int32) (m : rf_m), rec12 a1 a2 m = some r → rf_V 8 (rf_sh w) K 0 0 12 ([(0, .ref 206), (1, .int a1), (2, .int a2)], [], rf_MM w m)) (a1 : Int32) (a2 : Int32) (m : rf_m) (hg : g_X14_norths_12_b w rec2 rec12 a1 a2 m = some r) : rf_V 8 (rf_sh w) K 0 0 12 ([(0, .ref 206), (1, .int a1), (2, .int a2)], [], rf_MM w m) := by
  unfold g_X14_norths_12_b at hg
  refine rf_seg C [(.iload 2, 1), (.aload 0, 1), (.invokeinterface 14 4, 3)] (pc' := 17) (S' := ([(0, .ref 206), (1, .int a1), (2, .int a2)], [.int (m.1 206 4), .int a2], rf_MM w m)) (by decide +kernel) rfl trivial ?_
  refine rf_icmp_ge C 128 145 (by decide +kernel) (fun hc => ?_) (fun hc => ?_)
  · replace hg := (if_pos hc).symm.trans hg
    refine rf_seg C [(.iinc 1 1, 3)] (pc' := 148) (S' := ([(1, .int (a1 + 1)), (0, .ref 206), (2, .int a2)], [], rf_MM w m)) (by decide +kernel) rfl trivial ?_
    refine rf_goto C (-146) 2 (by decide +kernel) ?_
    refine rf_few [1, 0] rfl ?_
    exact hr2 (a1 + 1) m hg
  · replace hg := (if_neg hc).symm.trans hg
    obtain ⟨q0, hg⟩ := rf_g_some hg
    refine rf_seg C [(.iconst 30, 2), (.iload 1, 1), (.imul, 1), (.iload 2, 1), (.iadd, 1), (.istore 3, 1), (.aload 0, 1), (.invokeinterface 14 131, 3), (.iload 3, 1), (.iconst (-1), 1), (.iastore, 1), (.iload 1, 1), (.iload 2, 1)] (pc' := 36) (S' := ([(3, .int ((30 * a1) + a2)), (0, .ref 206), (1, .int a1), (2, .int a2)], [.int a2, .int a1], rf_MM w (rf_i m 293 (Int32.toNatClampNeg ((30 * a1) + a2)) ((-1))))) (by decide +kernel) rfl (rf_in_of q0) ?_
    refine rf_icmp_ne C 8 44 (by decide +kernel) (fun hc => ?_) (fun hc => ?_)
    · replace hg := (if_neg hc).symm.trans hg
      refine rf_seg C [(.aload 0, 1), (.iload 1, 1), (.iload 2, 1)] (pc' := 47) (S' := ([(3, .int ((30 * a1) + a2)), (0, .ref 206), (1, .int a1), (2, .int a2)], [.int a2, .int a1, .ref 206], rf_MM w (rf_i m 293 (Int32.toNatClampNeg ((30 * a1) + a2)) ((-1))))) (by decide +kernel) rfl trivial ?_
      obtain ⟨y1, m1, hc1, hg⟩ := rf_b_some hg
      refine rf_callv C rf_fit0 j_X14_ownNorth (ci := 14) (As := [.int a1, .int a2]) (rest := []) mw_X14_ownNorth (c_X14_ownNorth hc1) (by decide) rfl (by decide) lk_14_880 rfl rfl (Nat.le_of_ble_eq_true rfl) (by decide +kernel) ?_
      show rf_V 8 (rf_sh w) K 0 0 50 ([(3, .int ((30 * a1) + a2)), (0, .ref 206), (1, .int a1), (2, .int a2)], [.int y1], rf_MM w m1)
      refine rf_few [1, 2, 3, 0] rfl ?_
      exact s_X14_norths_50 C hE hr2 hr12 a1 a2 ((30 * a1) + a2) y1 m1 hg
    · replace hg := (if_pos hc).symm.trans hg
      refine rf_seg C [(.iconst (-2), 2)] (pc' := 41) (S' := ([(3, .int ((30 * a1) + a2)), (0, .ref 206), (1, .int a1), (2, .int a2)], [.int ((-2))], rf_MM w (rf_i m 293 (Int32.toNatClampNeg ((30 * a1) + a2)) ((-1))))) (by decide +kernel) rfl trivial ?_
      refine rf_goto C 9 50 (by decide +kernel) ?_
      refine rf_few [1, 2, 3, 0] rfl ?_
      exact s_X14_norths_50 C hE hr2 hr12 a1 a2 ((30 * a1) + a2) ((-2)) (rf_i m 293 (Int32.toNatClampNeg ((30 * a1) + a2)) ((-1))) hg
theorem s_X14_norths_12 {w : rf_w} {K : rf_K} {r : rf_m} (C : rf_Ctx 14 cX14_norths 8 10 (rf_sh w) K) (hE : rf_End none K (rf_sh w) 0 0 none (rf_MM w r)) {rec2 : Int32 → rf_m → Option (rf_m)} (hr2 : ∀ (a1 : Int32) (m : rf_m), rec2 a1 m = some r → rf_V 8 (rf_sh w) K 0 0 2 ([(0, .ref 206), (1, .int a1)], [], rf_MM w m)) (n : Nat) : ∀ (a1 : Int32) (a2 : Int32) (m : rf_m), g_X14_norths_12 w rec2 n a1 a2 m = some r → rf_V 8 (rf_sh w) K 0 0 12 ([(0, .ref 206), (1, .int a1), (2, .int a2)], [], rf_MM w m) := by
  induction n with
  | zero => intro a1 a2 m hg; cases hg
  | succ n ih => intro a1 a2 m hg; exact s_X14_norths_12_b C hE hr2 ih a1 a2 m hg
theorem s_X14_norths_2_b {w : rf_w} {K : rf_K} {r : rf_m} (C : rf_Ctx 14 cX14_norths 8 10 (rf_sh w) K) (hE : rf_End none K (rf_sh w) 0 0 none (rf_MM w r)) {rec2 : Int32 → rf_m → Option (rf_m)} (hr2 : ∀ (a1 : Int32) (m : rf_m), rec2 a1 m = some r → rf_V 8 (rf_sh w) K 0 0 2 ([(0, .ref 206), (1, .int a1)], [], rf_MM w m)) (a1 : Int32) (m : rf_m) (hg : g_X14_norths_2_b w rec2 a1 m = some r) : rf_V 8 (rf_sh w) K 0 0 2 ([(0, .ref 206), (1, .int a1)], [], rf_MM w m) := by
  unfold g_X14_norths_2_b at hg
  refine rf_seg C [(.iload 1, 1), (.aload 0, 1), (.invokeinterface 14 4, 3)] (pc' := 7) (S' := ([(0, .ref 206), (1, .int a1)], [.int (m.1 206 4), .int a1], rf_MM w m)) (by decide +kernel) rfl trivial ?_
  refine rf_icmp_ge C 144 151 (by decide +kernel) (fun hc => ?_) (fun hc => ?_)
  · replace hg := (if_pos hc).symm.trans hg
    refine rf_seg C [(.aload 0, 1)] (pc' := 152) (S' := ([(0, .ref 206), (1, .int a1)], [.ref 206], rf_MM w m)) (by decide +kernel) rfl trivial ?_
    obtain ⟨m0, hc0, hg⟩ := rf_bv_some hg
    refine rf_callv C rf_fit0 j_X14_allMeans (ci := 14) (As := []) (rest := []) mw_X14_allMeans (c_X14_allMeans hc0) (by decide) rfl (by decide) lk_14_713 rfl rfl (Nat.le_of_ble_eq_true rfl) (by decide +kernel) ?_
    show rf_V 8 (rf_sh w) K 0 0 155 ([(0, .ref 206), (1, .int a1)], [], rf_MM w m0)
    refine rf_seg C [(.iconst 1, 1), (.istore 1, 1), (.iconst 0, 1), (.istore 2, 1)] (pc' := 159) (S' := ([(2, .int 0), (1, .int 1), (0, .ref 206)], [], rf_MM w m0)) (by decide +kernel) rfl trivial ?_
    refine rf_few [2, 1, 0] rfl ?_
    exact s_X14_norths_159 C hE rf_fuel 1 0 m0 hg
  · replace hg := (if_neg hc).symm.trans hg
    refine rf_seg C [(.iconst 0, 1), (.istore 2, 1)] (pc' := 12) (S' := ([(2, .int 0), (0, .ref 206), (1, .int a1)], [], rf_MM w m)) (by decide +kernel) rfl trivial ?_
    refine rf_few [1, 2, 0] rfl ?_
    exact s_X14_norths_12 C hE hr2 rf_fuel a1 0 m hg
theorem s_X14_norths_2 {w : rf_w} {K : rf_K} {r : rf_m} (C : rf_Ctx 14 cX14_norths 8 10 (rf_sh w) K) (hE : rf_End none K (rf_sh w) 0 0 none (rf_MM w r)) (n : Nat) : ∀ (a1 : Int32) (m : rf_m), g_X14_norths_2 w n a1 m = some r → rf_V 8 (rf_sh w) K 0 0 2 ([(0, .ref 206), (1, .int a1)], [], rf_MM w m) := by
  induction n with
  | zero => intro a1 m hg; cases hg
  | succ n ih => intro a1 m hg; exact s_X14_norths_2_b C hE ih a1 m hg
theorem c_X14_norths {w : rf_w} {m : rf_m} {r : rf_m} (hg : g_X14_norths w m = some r) : rf_Con j_X14_norths 10 (rf_sh w) [.ref 206] (rf_MM w m) none (rf_MM w r) := by
  refine rf_con j_X14_norths 10 ⟨by decide +kernel, rfl, Nat.le_of_ble_eq_true rfl⟩ (fun K C hE => ?_)
  unfold g_X14_norths at hg
  show rf_V 8 (rf_sh w) K 0 0 0 ([(0, .ref 206)], [], rf_MM w m)
  refine rf_seg C [(.iconst 0, 1), (.istore 1, 1)] (pc' := 2) (S' := ([(1, .int 0), (0, .ref 206)], [], rf_MM w m)) (by decide +kernel) rfl trivial ?_
  refine rf_few [1, 0] rfl ?_
  exact s_X14_norths_2 C hE rf_fuel 0 m hg
