/-! methods as functions, and their contracts (written by wip/tool/gen.py) -/
-- X11_steps
abbrev j_X11_steps : rf_J := (11, yX11_steps, cX11_steps, 3, (some .int))
theorem mw_X11_steps : rf_mv j_X11_steps (rf_R 11) 2 := ⟨⟨rf_mem 91 (by decide +kernel), rf_mem 91 (by decide +kernel), rf_mem 0 (by decide +kernel), rf_mem 91 (by decide +kernel)⟩, by decide +kernel, by decide⟩
def g_X11_steps (w : rf_w) (m : rf_m) (a1 : Int32) (a2 : Int32) : Option (Int32 × rf_m) := rf_b (g_X5_isPair w m a1 a2) fun y0 m0 => (if y0 = 0 then some ((-1), m0) else rf_bv (g_X3_freshenAll w m0) fun m1 => rf_bv (g_X10_carryNorth w m1 a1 a2) fun m2 => rf_b (g_X10_stepsOf w m2 a1 a2) fun y3 m3 => some (y3, m3))
theorem c_X11_steps {w : rf_w} {m : rf_m} {a1 : Int32} {a2 : Int32} {r : Int32 × rf_m} (hg : g_X11_steps w m a1 a2 = some r) : rf_Con j_X11_steps 8 (rf_sh w) [.ref 0, .int a1, .int a2] (rf_MM w m) (some (.int r.1)) (rf_MM w r.2) := by
  refine rf_con j_X11_steps 8 ⟨by decide +kernel, rfl, Nat.le_of_ble_eq_true rfl⟩ (fun K C hE => ?_)
  unfold g_X11_steps at hg
  show rf_V 3 (rf_sh w) K 0 0 0 ([(0, .ref 0), (1, .int a1), (2, .int a2)], [], rf_MM w m)
  refine rf_seg C [(.aload 0, 1), (.invokeinterface 11 0, 3), (.iload 1, 1), (.iload 2, 1)] (pc' := 6) (S' := ([(0, .ref 0), (1, .int a1), (2, .int a2)], [.int a2, .int a1, .ref 1], rf_MM w m)) (by decide +kernel) rfl trivial ?_
  obtain ⟨y0, m0, hc0, hg⟩ := rf_b_some hg
  refine rf_callv C rf_fit0 j_X5_isPair (ci := 5) (As := [.int a1, .int a2]) (rest := []) mw_X5_isPair (c_X5_isPair hc0) (by decide) rfl (by decide) lk_11_145 rfl rfl (Nat.le_of_ble_eq_true rfl) (by decide +kernel) ?_
  show rf_V 3 (rf_sh w) K 0 0 9 ([(0, .ref 0), (1, .int a1), (2, .int a2)], [.int y0], rf_MM w m0)
  refine rf_if_ne C 5 14 (by decide +kernel) (fun hc => ?_) (fun hc => ?_)
  · replace hg := (if_neg hc).symm.trans hg
    refine rf_seg C [(.aload 0, 1), (.invokeinterface 11 2, 3)] (pc' := 18) (S' := ([(0, .ref 0), (1, .int a1), (2, .int a2)], [.ref 26], rf_MM w m0)) (by decide +kernel) rfl trivial ?_
    obtain ⟨m1, hc1, hg⟩ := rf_bv_some hg
    refine rf_callv C rf_fit0 j_X3_freshenAll (ci := 3) (As := []) (rest := []) mw_X3_freshenAll (c_X3_freshenAll hc1) (by decide) rfl (by decide) lk_11_346 rfl rfl (Nat.le_of_ble_eq_true rfl) (by decide +kernel) ?_
    show rf_V 3 (rf_sh w) K 0 0 21 ([(0, .ref 0), (1, .int a1), (2, .int a2)], [], rf_MM w m1)
    refine rf_seg C [(.aload 0, 1), (.invokeinterface 11 8, 3), (.iload 1, 1), (.iload 2, 1)] (pc' := 27) (S' := ([(0, .ref 0), (1, .int a1), (2, .int a2)], [.int a2, .int a1, .ref 193], rf_MM w m1)) (by decide +kernel) rfl trivial ?_
    obtain ⟨m2, hc2, hg⟩ := rf_bv_some hg
    refine rf_callv C rf_fit0 j_X10_carryNorth (ci := 10) (As := [.int a1, .int a2]) (rest := []) mw_X10_carryNorth (c_X10_carryNorth hc2) (by decide) rfl (by decide) lk_11_458 rfl rfl (Nat.le_of_ble_eq_true rfl) (by decide +kernel) ?_
    show rf_V 3 (rf_sh w) K 0 0 30 ([(0, .ref 0), (1, .int a1), (2, .int a2)], [], rf_MM w m2)
    refine rf_seg C [(.aload 0, 1), (.invokeinterface 11 8, 3), (.iload 1, 1), (.iload 2, 1)] (pc' := 36) (S' := ([(0, .ref 0), (1, .int a1), (2, .int a2)], [.int a2, .int a1, .ref 193], rf_MM w m2)) (by decide +kernel) rfl trivial ?_
    obtain ⟨y3, m3, hc3, hg⟩ := rf_b_some hg
    refine rf_callv C rf_fit0 j_X10_stepsOf (ci := 10) (As := [.int a1, .int a2]) (rest := []) mw_X10_stepsOf (c_X10_stepsOf hc3) (by decide) rfl (by decide) lk_11_464 rfl rfl (Nat.le_of_ble_eq_true rfl) (by decide +kernel) ?_
    show rf_V 3 (rf_sh w) K 0 0 39 ([(0, .ref 0), (1, .int a1), (2, .int a2)], [.int y3], rf_MM w m3)
    obtain rfl := Option.some.inj hg
    exact rf_iret C hE (by decide +kernel)
  · replace hg := (if_pos hc).symm.trans hg
    refine rf_seg C [(.iconst (-1), 1)] (pc' := 13) (S' := ([(0, .ref 0), (1, .int a1), (2, .int a2)], [.int ((-1))], rf_MM w m0)) (by decide +kernel) rfl trivial ?_
    obtain rfl := Option.some.inj hg
    exact rf_iret C hE (by decide +kernel)
-- X11_level
abbrev j_X11_level : rf_J := (11, yX11_level, cX11_level, 5, (some .int))
theorem mw_X11_level : rf_mv j_X11_level (rf_R 11) 4 := ⟨⟨rf_mem 91 (by decide +kernel), rf_mem 91 (by decide +kernel), rf_mem 0 (by decide +kernel), rf_mem 91 (by decide +kernel)⟩, by decide +kernel, by decide⟩
def g_X11_level (w : rf_w) (m : rf_m) (a1 : Int32) (a2 : Int32) (a3 : Int32) (a4 : Int32) : Option (Int32 × rf_m) := rf_b (g_X5_isPair w m a1 a2) fun y0 m0 => (if y0 = 0 then rf_b (g_X11_refused w m0 1) fun y8 m8 => some (y8, m8) else rf_b (g_X11_isWithin w m0 a3 ((-1000000)) 1000000) fun y1 m1 => (if y1 = 0 then rf_b (g_X11_refused w m1 2) fun y2 m2 => some (y2, m2) else rf_b (g_X11_isHour w m1 a4) fun y3 m3 => (if y3 = 0 then rf_b (g_X11_refused w m3 2) fun y7 m7 => some (y7, m7) else (if (m3.1 193 1) < 60 then rf_b (g_X10_addLevel w m3 a1 a2 a3) fun y4 m4 => rf_b (g_X11_answered w m4 y4) fun y5 m5 => some (y5, m5) else rf_b (g_X11_refused w m3 3) fun y6 m6 => some (y6, m6)))))
theorem c_X11_level {w : rf_w} {m : rf_m} {a1 : Int32} {a2 : Int32} {a3 : Int32} {a4 : Int32} {r : Int32 × rf_m} (hg : g_X11_level w m a1 a2 a3 a4 = some r) : rf_Con j_X11_level 3 (rf_sh w) [.ref 0, .int a1, .int a2, .int a3, .int a4] (rf_MM w m) (some (.int r.1)) (rf_MM w r.2) := by
  refine rf_con j_X11_level 3 ⟨by decide +kernel, rfl, Nat.le_of_ble_eq_true rfl⟩ (fun K C hE => ?_)
  unfold g_X11_level at hg
  show rf_V 5 (rf_sh w) K 0 0 0 ([(0, .ref 0), (1, .int a1), (2, .int a2), (3, .int a3), (4, .int a4)], [], rf_MM w m)
  refine rf_seg C [(.aload 0, 1), (.invokeinterface 11 0, 3), (.iload 1, 1), (.iload 2, 1)] (pc' := 6) (S' := ([(0, .ref 0), (1, .int a1), (2, .int a2), (3, .int a3), (4, .int a4)], [.int a2, .int a1, .ref 1], rf_MM w m)) (by decide +kernel) rfl trivial ?_
  obtain ⟨y0, m0, hc0, hg⟩ := rf_b_some hg
  refine rf_callv C rf_fit0 j_X5_isPair (ci := 5) (As := [.int a1, .int a2]) (rest := []) mw_X5_isPair (c_X5_isPair hc0) (by decide) rfl (by decide) lk_11_145 rfl rfl (Nat.le_of_ble_eq_true rfl) (by decide +kernel) ?_
  show rf_V 5 (rf_sh w) K 0 0 9 ([(0, .ref 0), (1, .int a1), (2, .int a2), (3, .int a3), (4, .int a4)], [.int y0], rf_MM w m0)
  refine rf_if_ne C 9 18 (by decide +kernel) (fun hc => ?_) (fun hc => ?_)
  · replace hg := (if_neg hc).symm.trans hg
    refine rf_seg C [(.iload 3, 1), (.iconst (-1000000), 3), (.iconst 1000000, 3)] (pc' := 25) (S' := ([(0, .ref 0), (1, .int a1), (2, .int a2), (3, .int a3), (4, .int a4)], [.int 1000000, .int ((-1000000)), .int a3], rf_MM w m0)) (by decide +kernel) rfl trivial ?_
    obtain ⟨y1, m1, hc1, hg⟩ := rf_b_some hg
    refine rf_calls C rf_fit0 j_X11_isWithin (As := [.int a3, .int ((-1000000)), .int 1000000]) (rest := []) mw_X11_isWithin (c_X11_isWithin hc1) (by decide) lk_11_91 rfl rfl (Nat.le_of_ble_eq_true rfl) (by decide +kernel) ?_
    show rf_V 5 (rf_sh w) K 0 0 28 ([(0, .ref 0), (1, .int a1), (2, .int a2), (3, .int a3), (4, .int a4)], [.int y1], rf_MM w m1)
    refine rf_if_eq C 11 39 (by decide +kernel) (fun hc => ?_) (fun hc => ?_)
    · replace hg := (if_pos hc).symm.trans hg
      refine rf_seg C [(.aload 0, 1), (.iconst 2, 1)] (pc' := 41) (S' := ([(0, .ref 0), (1, .int a1), (2, .int a2), (3, .int a3), (4, .int a4)], [.int 2, .ref 0], rf_MM w m1)) (by decide +kernel) rfl trivial ?_
      obtain ⟨y2, m2, hc2, hg⟩ := rf_b_some hg
      refine rf_callv C rf_fit0 j_X11_refused (ci := 11) (As := [.int 2]) (rest := []) mw_X11_refused (c_X11_refused hc2) (by decide) rfl (by decide) lk_11_105 rfl rfl (Nat.le_of_ble_eq_true rfl) (by decide +kernel) ?_
      show rf_V 5 (rf_sh w) K 0 0 44 ([(0, .ref 0), (1, .int a1), (2, .int a2), (3, .int a3), (4, .int a4)], [.int y2], rf_MM w m2)
      obtain rfl := Option.some.inj hg
      exact rf_iret C hE (by decide +kernel)
    · replace hg := (if_neg hc).symm.trans hg
      refine rf_seg C [(.iload 4, 2)] (pc' := 33) (S' := ([(0, .ref 0), (1, .int a1), (2, .int a2), (3, .int a3), (4, .int a4)], [.int a4], rf_MM w m1)) (by decide +kernel) rfl trivial ?_
      obtain ⟨y3, m3, hc3, hg⟩ := rf_b_some hg
      refine rf_calls C rf_fit0 j_X11_isHour (As := [.int a4]) (rest := []) mw_X11_isHour (c_X11_isHour hc3) (by decide) lk_11_139 rfl rfl (Nat.le_of_ble_eq_true rfl) (by decide +kernel) ?_
      show rf_V 5 (rf_sh w) K 0 0 36 ([(0, .ref 0), (1, .int a1), (2, .int a2), (3, .int a3), (4, .int a4)], [.int y3], rf_MM w m3)
      refine rf_if_ne C 9 45 (by decide +kernel) (fun hc => ?_) (fun hc => ?_)
      · replace hg := (if_neg hc).symm.trans hg
        refine rf_seg C [(.aload 0, 1), (.invokeinterface 11 8, 3), (.invokeinterface 10 1, 3), (.iconst 60, 2)] (pc' := 54) (S' := ([(0, .ref 0), (1, .int a1), (2, .int a2), (3, .int a3), (4, .int a4)], [.int 60, .int (m3.1 193 1)], rf_MM w m3)) (by decide +kernel) rfl trivial ?_
        refine rf_icmp_lt C 9 63 (by decide +kernel) (fun hc => ?_) (fun hc => ?_)
        · replace hg := (if_pos hc).symm.trans hg
          refine rf_seg C [(.aload 0, 1), (.aload 0, 1), (.invokeinterface 11 8, 3), (.iload 1, 1), (.iload 2, 1), (.iload 3, 1)] (pc' := 71) (S' := ([(0, .ref 0), (1, .int a1), (2, .int a2), (3, .int a3), (4, .int a4)], [.int a3, .int a2, .int a1, .ref 193, .ref 0], rf_MM w m3)) (by decide +kernel) rfl trivial ?_
          obtain ⟨y4, m4, hc4, hg⟩ := rf_b_some hg
          refine rf_callv C rf_fit0 j_X10_addLevel (ci := 10) (As := [.int a1, .int a2, .int a3]) (rest := [.ref 0]) mw_X10_addLevel (c_X10_addLevel hc4) (by decide) rfl (by decide) lk_11_472 rfl rfl (Nat.le_of_ble_eq_true rfl) (by decide +kernel) ?_
          show rf_V 5 (rf_sh w) K 0 0 74 ([(0, .ref 0), (1, .int a1), (2, .int a2), (3, .int a3), (4, .int a4)], [.int y4, .ref 0], rf_MM w m4)
          obtain ⟨y5, m5, hc5, hg⟩ := rf_b_some hg
          refine rf_callv C rf_fit0 j_X11_answered (ci := 11) (As := [.int y4]) (rest := []) mw_X11_answered (c_X11_answered hc5) (by decide) rfl (by decide) lk_11_119 rfl rfl (Nat.le_of_ble_eq_true rfl) (by decide +kernel) ?_
          show rf_V 5 (rf_sh w) K 0 0 77 ([(0, .ref 0), (1, .int a1), (2, .int a2), (3, .int a3), (4, .int a4)], [.int y5], rf_MM w m5)
          obtain rfl := Option.some.inj hg
          exact rf_iret C hE (by decide +kernel)
        · replace hg := (if_neg hc).symm.trans hg
          refine rf_seg C [(.aload 0, 1), (.iconst 3, 1)] (pc' := 59) (S' := ([(0, .ref 0), (1, .int a1), (2, .int a2), (3, .int a3), (4, .int a4)], [.int 3, .ref 0], rf_MM w m3)) (by decide +kernel) rfl trivial ?_
          obtain ⟨y6, m6, hc6, hg⟩ := rf_b_some hg
          refine rf_callv C rf_fit0 j_X11_refused (ci := 11) (As := [.int 3]) (rest := []) mw_X11_refused (c_X11_refused hc6) (by decide) rfl (by decide) lk_11_105 rfl rfl (Nat.le_of_ble_eq_true rfl) (by decide +kernel) ?_
          show rf_V 5 (rf_sh w) K 0 0 62 ([(0, .ref 0), (1, .int a1), (2, .int a2), (3, .int a3), (4, .int a4)], [.int y6], rf_MM w m6)
          obtain rfl := Option.some.inj hg
          exact rf_iret C hE (by decide +kernel)
      · replace hg := (if_pos hc).symm.trans hg
        refine rf_seg C [(.aload 0, 1), (.iconst 2, 1)] (pc' := 41) (S' := ([(0, .ref 0), (1, .int a1), (2, .int a2), (3, .int a3), (4, .int a4)], [.int 2, .ref 0], rf_MM w m3)) (by decide +kernel) rfl trivial ?_
        obtain ⟨y7, m7, hc7, hg⟩ := rf_b_some hg
        refine rf_callv C rf_fit0 j_X11_refused (ci := 11) (As := [.int 2]) (rest := []) mw_X11_refused (c_X11_refused hc7) (by decide) rfl (by decide) lk_11_105 rfl rfl (Nat.le_of_ble_eq_true rfl) (by decide +kernel) ?_
        show rf_V 5 (rf_sh w) K 0 0 44 ([(0, .ref 0), (1, .int a1), (2, .int a2), (3, .int a3), (4, .int a4)], [.int y7], rf_MM w m7)
        obtain rfl := Option.some.inj hg
        exact rf_iret C hE (by decide +kernel)
  · replace hg := (if_pos hc).symm.trans hg
    refine rf_seg C [(.aload 0, 1), (.iconst 1, 1)] (pc' := 14) (S' := ([(0, .ref 0), (1, .int a1), (2, .int a2), (3, .int a3), (4, .int a4)], [.int 1, .ref 0], rf_MM w m0)) (by decide +kernel) rfl trivial ?_
    obtain ⟨y8, m8, hc8, hg⟩ := rf_b_some hg
    refine rf_callv C rf_fit0 j_X11_refused (ci := 11) (As := [.int 1]) (rest := []) mw_X11_refused (c_X11_refused hc8) (by decide) rfl (by decide) lk_11_105 rfl rfl (Nat.le_of_ble_eq_true rfl) (by decide +kernel) ?_
    show rf_V 5 (rf_sh w) K 0 0 17 ([(0, .ref 0), (1, .int a1), (2, .int a2), (3, .int a3), (4, .int a4)], [.int y8], rf_MM w m8)
    obtain rfl := Option.some.inj hg
    exact rf_iret C hE (by decide +kernel)
-- X11_between
abbrev j_X11_between : rf_J := (11, yX11_between, cX11_between, 3, (some .int))
theorem mw_X11_between : rf_mv j_X11_between (rf_R 11) 2 := ⟨⟨rf_mem 92 (by decide +kernel), rf_mem 92 (by decide +kernel), rf_mem 0 (by decide +kernel), rf_mem 92 (by decide +kernel)⟩, by decide +kernel, by decide⟩
def g_X11_between (w : rf_w) (m : rf_m) (a1 : Int32) (a2 : Int32) : Option (Int32 × rf_m) := rf_b (g_X5_isPair w m a1 a2) fun y0 m0 => (if y0 = 0 then some ((-2147483648), m0) else rf_b (g_X10_heightFrom w m0 a1 a2) fun y1 m1 => some (y1, m1))
theorem c_X11_between {w : rf_w} {m : rf_m} {a1 : Int32} {a2 : Int32} {r : Int32 × rf_m} (hg : g_X11_between w m a1 a2 = some r) : rf_Con j_X11_between 4 (rf_sh w) [.ref 0, .int a1, .int a2] (rf_MM w m) (some (.int r.1)) (rf_MM w r.2) := by
  refine rf_con j_X11_between 4 ⟨by decide +kernel, rfl, Nat.le_of_ble_eq_true rfl⟩ (fun K C hE => ?_)
  unfold g_X11_between at hg
  show rf_V 3 (rf_sh w) K 0 0 0 ([(0, .ref 0), (1, .int a1), (2, .int a2)], [], rf_MM w m)
  refine rf_seg C [(.aload 0, 1), (.invokeinterface 11 0, 3), (.iload 1, 1), (.iload 2, 1)] (pc' := 6) (S' := ([(0, .ref 0), (1, .int a1), (2, .int a2)], [.int a2, .int a1, .ref 1], rf_MM w m)) (by decide +kernel) rfl trivial ?_
  obtain ⟨y0, m0, hc0, hg⟩ := rf_b_some hg
  refine rf_callv C rf_fit0 j_X5_isPair (ci := 5) (As := [.int a1, .int a2]) (rest := []) mw_X5_isPair (c_X5_isPair hc0) (by decide) rfl (by decide) lk_11_145 rfl rfl (Nat.le_of_ble_eq_true rfl) (by decide +kernel) ?_
  show rf_V 3 (rf_sh w) K 0 0 9 ([(0, .ref 0), (1, .int a1), (2, .int a2)], [.int y0], rf_MM w m0)
  refine rf_if_eq C 15 24 (by decide +kernel) (fun hc => ?_) (fun hc => ?_)
  · replace hg := (if_pos hc).symm.trans hg
    refine rf_seg C [(.iconst (-2147483648), 3)] (pc' := 27) (S' := ([(0, .ref 0), (1, .int a1), (2, .int a2)], [.int ((-2147483648))], rf_MM w m0)) (by decide +kernel) rfl trivial ?_
    obtain rfl := Option.some.inj hg
    exact rf_iret C hE (by decide +kernel)
  · replace hg := (if_neg hc).symm.trans hg
    refine rf_seg C [(.aload 0, 1), (.invokeinterface 11 8, 3), (.iload 1, 1), (.iload 2, 1)] (pc' := 18) (S' := ([(0, .ref 0), (1, .int a1), (2, .int a2)], [.int a2, .int a1, .ref 193], rf_MM w m0)) (by decide +kernel) rfl trivial ?_
    obtain ⟨y1, m1, hc1, hg⟩ := rf_b_some hg
    refine rf_callv C rf_fit0 j_X10_heightFrom (ci := 10) (As := [.int a1, .int a2]) (rest := []) mw_X10_heightFrom (c_X10_heightFrom hc1) (by decide) rfl (by decide) lk_11_475 rfl rfl (Nat.le_of_ble_eq_true rfl) (by decide +kernel) ?_
    show rf_V 3 (rf_sh w) K 0 0 21 ([(0, .ref 0), (1, .int a1), (2, .int a2)], [.int y1], rf_MM w m1)
    refine rf_goto C 6 27 (by decide +kernel) ?_
    obtain rfl := Option.some.inj hg
    exact rf_iret C hE (by decide +kernel)
-- X11_doubt
abbrev j_X11_doubt : rf_J := (11, yX11_doubt, cX11_doubt, 3, (some .int))
theorem mw_X11_doubt : rf_mv j_X11_doubt (rf_R 11) 2 := ⟨⟨rf_mem 93 (by decide +kernel), rf_mem 93 (by decide +kernel), rf_mem 0 (by decide +kernel), rf_mem 93 (by decide +kernel)⟩, by decide +kernel, by decide⟩
def g_X11_doubt (w : rf_w) (m : rf_m) (a1 : Int32) (a2 : Int32) : Option (Int32 × rf_m) := rf_b (g_X5_isPair w m a1 a2) fun y0 m0 => (if y0 = 0 then some ((-1), m0) else rf_b (g_X10_doubtOf w m0 a1 a2) fun y1 m1 => some (y1, m1))
theorem c_X11_doubt {w : rf_w} {m : rf_m} {a1 : Int32} {a2 : Int32} {r : Int32 × rf_m} (hg : g_X11_doubt w m a1 a2 = some r) : rf_Con j_X11_doubt 5 (rf_sh w) [.ref 0, .int a1, .int a2] (rf_MM w m) (some (.int r.1)) (rf_MM w r.2) := by
  refine rf_con j_X11_doubt 5 ⟨by decide +kernel, rfl, Nat.le_of_ble_eq_true rfl⟩ (fun K C hE => ?_)
  unfold g_X11_doubt at hg
  show rf_V 3 (rf_sh w) K 0 0 0 ([(0, .ref 0), (1, .int a1), (2, .int a2)], [], rf_MM w m)
  refine rf_seg C [(.aload 0, 1), (.invokeinterface 11 0, 3), (.iload 1, 1), (.iload 2, 1)] (pc' := 6) (S' := ([(0, .ref 0), (1, .int a1), (2, .int a2)], [.int a2, .int a1, .ref 1], rf_MM w m)) (by decide +kernel) rfl trivial ?_
  obtain ⟨y0, m0, hc0, hg⟩ := rf_b_some hg
  refine rf_callv C rf_fit0 j_X5_isPair (ci := 5) (As := [.int a1, .int a2]) (rest := []) mw_X5_isPair (c_X5_isPair hc0) (by decide) rfl (by decide) lk_11_145 rfl rfl (Nat.le_of_ble_eq_true rfl) (by decide +kernel) ?_
  show rf_V 3 (rf_sh w) K 0 0 9 ([(0, .ref 0), (1, .int a1), (2, .int a2)], [.int y0], rf_MM w m0)
  refine rf_if_eq C 15 24 (by decide +kernel) (fun hc => ?_) (fun hc => ?_)
  · replace hg := (if_pos hc).symm.trans hg
    refine rf_seg C [(.iconst (-1), 1)] (pc' := 25) (S' := ([(0, .ref 0), (1, .int a1), (2, .int a2)], [.int ((-1))], rf_MM w m0)) (by decide +kernel) rfl trivial ?_
    obtain rfl := Option.some.inj hg
    exact rf_iret C hE (by decide +kernel)
  · replace hg := (if_neg hc).symm.trans hg
    refine rf_seg C [(.aload 0, 1), (.invokeinterface 11 8, 3), (.iload 1, 1), (.iload 2, 1)] (pc' := 18) (S' := ([(0, .ref 0), (1, .int a1), (2, .int a2)], [.int a2, .int a1, .ref 193], rf_MM w m0)) (by decide +kernel) rfl trivial ?_
    obtain ⟨y1, m1, hc1, hg⟩ := rf_b_some hg
    refine rf_callv C rf_fit0 j_X10_doubtOf (ci := 10) (As := [.int a1, .int a2]) (rest := []) mw_X10_doubtOf (c_X10_doubtOf hc1) (by decide) rfl (by decide) lk_11_478 rfl rfl (Nat.le_of_ble_eq_true rfl) (by decide +kernel) ?_
    show rf_V 3 (rf_sh w) K 0 0 21 ([(0, .ref 0), (1, .int a1), (2, .int a2)], [.int y1], rf_MM w m1)
    refine rf_goto C 4 25 (by decide +kernel) ?_
    obtain rfl := Option.some.inj hg
    exact rf_iret C hE (by decide +kernel)
-- X11_mass
abbrev j_X11_mass : rf_J := (11, yX11_mass, cX11_mass, 3, (some .int))
theorem mw_X11_mass : rf_mv j_X11_mass (rf_R 11) 2 := ⟨⟨rf_mem 94 (by decide +kernel), rf_mem 94 (by decide +kernel), rf_mem 0 (by decide +kernel), rf_mem 94 (by decide +kernel)⟩, by decide +kernel, by decide⟩
def g_X11_mass (w : rf_w) (m : rf_m) (a1 : Int32) (a2 : Int32) : Option (Int32 × rf_m) := rf_b (g_X11_isCell w m a1) fun y0 m0 => (if y0 = 0 then rf_b (g_X11_refused w m0 1) fun y6 m6 => some (y6, m6) else rf_b (g_X11_isWithin w m0 a2 1 1000000) fun y1 m1 => (if y1 = 0 then rf_b (g_X11_refused w m1 2) fun y5 m5 => some (y5, m5) else (if (m1.1 1 5) < 12 then rf_b (g_X5_addMass w m1 a1 a2) fun y2 m2 => rf_b (g_X11_answered w m2 y2) fun y3 m3 => some (y3, m3) else rf_b (g_X11_refused w m1 3) fun y4 m4 => some (y4, m4))))
theorem c_X11_mass {w : rf_w} {m : rf_m} {a1 : Int32} {a2 : Int32} {r : Int32 × rf_m} (hg : g_X11_mass w m a1 a2 = some r) : rf_Con j_X11_mass 3 (rf_sh w) [.ref 0, .int a1, .int a2] (rf_MM w m) (some (.int r.1)) (rf_MM w r.2) := by
  refine rf_con j_X11_mass 3 ⟨by decide +kernel, rfl, Nat.le_of_ble_eq_true rfl⟩ (fun K C hE => ?_)
  unfold g_X11_mass at hg
  show rf_V 3 (rf_sh w) K 0 0 0 ([(0, .ref 0), (1, .int a1), (2, .int a2)], [], rf_MM w m)
  refine rf_seg C [(.iload 1, 1)] (pc' := 1) (S' := ([(0, .ref 0), (1, .int a1), (2, .int a2)], [.int a1], rf_MM w m)) (by decide +kernel) rfl trivial ?_
  obtain ⟨y0, m0, hc0, hg⟩ := rf_b_some hg
  refine rf_calls C rf_fit0 j_X11_isCell (As := [.int a1]) (rest := []) mw_X11_isCell (c_X11_isCell hc0) (by decide) lk_11_84 rfl rfl (Nat.le_of_ble_eq_true rfl) (by decide +kernel) ?_
  show rf_V 3 (rf_sh w) K 0 0 4 ([(0, .ref 0), (1, .int a1), (2, .int a2)], [.int y0], rf_MM w m0)
  refine rf_if_ne C 9 13 (by decide +kernel) (fun hc => ?_) (fun hc => ?_)
  · replace hg := (if_neg hc).symm.trans hg
    refine rf_seg C [(.iload 2, 1), (.iconst 1, 1), (.iconst 1000000, 3)] (pc' := 18) (S' := ([(0, .ref 0), (1, .int a1), (2, .int a2)], [.int 1000000, .int 1, .int a2], rf_MM w m0)) (by decide +kernel) rfl trivial ?_
    obtain ⟨y1, m1, hc1, hg⟩ := rf_b_some hg
    refine rf_calls C rf_fit0 j_X11_isWithin (As := [.int a2, .int 1, .int 1000000]) (rest := []) mw_X11_isWithin (c_X11_isWithin hc1) (by decide) lk_11_91 rfl rfl (Nat.le_of_ble_eq_true rfl) (by decide +kernel) ?_
    show rf_V 3 (rf_sh w) K 0 0 21 ([(0, .ref 0), (1, .int a1), (2, .int a2)], [.int y1], rf_MM w m1)
    refine rf_if_ne C 9 30 (by decide +kernel) (fun hc => ?_) (fun hc => ?_)
    · replace hg := (if_neg hc).symm.trans hg
      refine rf_seg C [(.aload 0, 1), (.invokeinterface 11 0, 3), (.invokeinterface 5 5, 3), (.iconst 12, 2)] (pc' := 39) (S' := ([(0, .ref 0), (1, .int a1), (2, .int a2)], [.int 12, .int (m1.1 1 5)], rf_MM w m1)) (by decide +kernel) rfl trivial ?_
      refine rf_icmp_lt C 9 48 (by decide +kernel) (fun hc => ?_) (fun hc => ?_)
      · replace hg := (if_pos hc).symm.trans hg
        refine rf_seg C [(.aload 0, 1), (.aload 0, 1), (.invokeinterface 11 0, 3), (.iload 1, 1), (.iload 2, 1)] (pc' := 55) (S' := ([(0, .ref 0), (1, .int a1), (2, .int a2)], [.int a2, .int a1, .ref 1, .ref 0], rf_MM w m1)) (by decide +kernel) rfl trivial ?_
        obtain ⟨y2, m2, hc2, hg⟩ := rf_b_some hg
        refine rf_callv C rf_fit0 j_X5_addMass (ci := 5) (As := [.int a1, .int a2]) (rest := [.ref 0]) mw_X5_addMass (c_X5_addMass hc2) (by decide) rfl (by decide) lk_11_484 rfl rfl (Nat.le_of_ble_eq_true rfl) (by decide +kernel) ?_
        show rf_V 3 (rf_sh w) K 0 0 58 ([(0, .ref 0), (1, .int a1), (2, .int a2)], [.int y2, .ref 0], rf_MM w m2)
        obtain ⟨y3, m3, hc3, hg⟩ := rf_b_some hg
        refine rf_callv C rf_fit0 j_X11_answered (ci := 11) (As := [.int y2]) (rest := []) mw_X11_answered (c_X11_answered hc3) (by decide) rfl (by decide) lk_11_119 rfl rfl (Nat.le_of_ble_eq_true rfl) (by decide +kernel) ?_
        show rf_V 3 (rf_sh w) K 0 0 61 ([(0, .ref 0), (1, .int a1), (2, .int a2)], [.int y3], rf_MM w m3)
        obtain rfl := Option.some.inj hg
        exact rf_iret C hE (by decide +kernel)
      · replace hg := (if_neg hc).symm.trans hg
        refine rf_seg C [(.aload 0, 1), (.iconst 3, 1)] (pc' := 44) (S' := ([(0, .ref 0), (1, .int a1), (2, .int a2)], [.int 3, .ref 0], rf_MM w m1)) (by decide +kernel) rfl trivial ?_
        obtain ⟨y4, m4, hc4, hg⟩ := rf_b_some hg
        refine rf_callv C rf_fit0 j_X11_refused (ci := 11) (As := [.int 3]) (rest := []) mw_X11_refused (c_X11_refused hc4) (by decide) rfl (by decide) lk_11_105 rfl rfl (Nat.le_of_ble_eq_true rfl) (by decide +kernel) ?_
        show rf_V 3 (rf_sh w) K 0 0 47 ([(0, .ref 0), (1, .int a1), (2, .int a2)], [.int y4], rf_MM w m4)
        obtain rfl := Option.some.inj hg
        exact rf_iret C hE (by decide +kernel)
    · replace hg := (if_pos hc).symm.trans hg
      refine rf_seg C [(.aload 0, 1), (.iconst 2, 1)] (pc' := 26) (S' := ([(0, .ref 0), (1, .int a1), (2, .int a2)], [.int 2, .ref 0], rf_MM w m1)) (by decide +kernel) rfl trivial ?_
      obtain ⟨y5, m5, hc5, hg⟩ := rf_b_some hg
      refine rf_callv C rf_fit0 j_X11_refused (ci := 11) (As := [.int 2]) (rest := []) mw_X11_refused (c_X11_refused hc5) (by decide) rfl (by decide) lk_11_105 rfl rfl (Nat.le_of_ble_eq_true rfl) (by decide +kernel) ?_
      show rf_V 3 (rf_sh w) K 0 0 29 ([(0, .ref 0), (1, .int a1), (2, .int a2)], [.int y5], rf_MM w m5)
      obtain rfl := Option.some.inj hg
      exact rf_iret C hE (by decide +kernel)
  · replace hg := (if_pos hc).symm.trans hg
    refine rf_seg C [(.aload 0, 1), (.iconst 1, 1)] (pc' := 9) (S' := ([(0, .ref 0), (1, .int a1), (2, .int a2)], [.int 1, .ref 0], rf_MM w m0)) (by decide +kernel) rfl trivial ?_
    obtain ⟨y6, m6, hc6, hg⟩ := rf_b_some hg
    refine rf_callv C rf_fit0 j_X11_refused (ci := 11) (As := [.int 1]) (rest := []) mw_X11_refused (c_X11_refused hc6) (by decide) rfl (by decide) lk_11_105 rfl rfl (Nat.le_of_ble_eq_true rfl) (by decide +kernel) ?_
    show rf_V 3 (rf_sh w) K 0 0 12 ([(0, .ref 0), (1, .int a1), (2, .int a2)], [.int y6], rf_MM w m6)
    obtain rfl := Option.some.inj hg
    exact rf_iret C hE (by decide +kernel)
-- X11_pull
abbrev j_X11_pull : rf_J := (11, yX11_pull, cX11_pull, 3, (some .int))
theorem mw_X11_pull : rf_mv j_X11_pull (rf_R 11) 2 := ⟨⟨rf_mem 95 (by decide +kernel), rf_mem 95 (by decide +kernel), rf_mem 0 (by decide +kernel), rf_mem 95 (by decide +kernel)⟩, by decide +kernel, by decide⟩
def g_X11_pull (w : rf_w) (m : rf_m) (a1 : Int32) (a2 : Int32) : Option (Int32 × rf_m) := rf_b (g_X5_isMark w m a1) fun y0 m0 => (if y0 = 0 then some ((-2147483648), m0) else rf_b (g_X5_pullAt w m0 a1 a2) fun y1 m1 => some (y1, m1))
theorem c_X11_pull {w : rf_w} {m : rf_m} {a1 : Int32} {a2 : Int32} {r : Int32 × rf_m} (hg : g_X11_pull w m a1 a2 = some r) : rf_Con j_X11_pull 2 (rf_sh w) [.ref 0, .int a1, .int a2] (rf_MM w m) (some (.int r.1)) (rf_MM w r.2) := by
  refine rf_con j_X11_pull 2 ⟨by decide +kernel, rfl, Nat.le_of_ble_eq_true rfl⟩ (fun K C hE => ?_)
  unfold g_X11_pull at hg
  show rf_V 3 (rf_sh w) K 0 0 0 ([(0, .ref 0), (1, .int a1), (2, .int a2)], [], rf_MM w m)
  refine rf_seg C [(.aload 0, 1), (.invokeinterface 11 0, 3), (.iload 1, 1)] (pc' := 5) (S' := ([(0, .ref 0), (1, .int a1), (2, .int a2)], [.int a1, .ref 1], rf_MM w m)) (by decide +kernel) rfl trivial ?_
  obtain ⟨y0, m0, hc0, hg⟩ := rf_b_some hg
  refine rf_callv C rf_fit0 j_X5_isMark (ci := 5) (As := [.int a1]) (rest := []) mw_X5_isMark (c_X5_isMark hc0) (by decide) rfl (by decide) lk_11_122 rfl rfl (Nat.le_of_ble_eq_true rfl) (by decide +kernel) ?_
  show rf_V 3 (rf_sh w) K 0 0 8 ([(0, .ref 0), (1, .int a1), (2, .int a2)], [.int y0], rf_MM w m0)
  refine rf_if_eq C 15 23 (by decide +kernel) (fun hc => ?_) (fun hc => ?_)
  · replace hg := (if_pos hc).symm.trans hg
    refine rf_seg C [(.iconst (-2147483648), 3)] (pc' := 26) (S' := ([(0, .ref 0), (1, .int a1), (2, .int a2)], [.int ((-2147483648))], rf_MM w m0)) (by decide +kernel) rfl trivial ?_
    obtain rfl := Option.some.inj hg
    exact rf_iret C hE (by decide +kernel)
  · replace hg := (if_neg hc).symm.trans hg
    refine rf_seg C [(.aload 0, 1), (.invokeinterface 11 0, 3), (.iload 1, 1), (.iload 2, 1)] (pc' := 17) (S' := ([(0, .ref 0), (1, .int a1), (2, .int a2)], [.int a2, .int a1, .ref 1], rf_MM w m0)) (by decide +kernel) rfl trivial ?_
    obtain ⟨y1, m1, hc1, hg⟩ := rf_b_some hg
    refine rf_callv C rf_fit0 j_X5_pullAt (ci := 5) (As := [.int a1, .int a2]) (rest := []) mw_X5_pullAt (c_X5_pullAt hc1) (by decide) rfl (by decide) lk_11_487 rfl rfl (Nat.le_of_ble_eq_true rfl) (by decide +kernel) ?_
    show rf_V 3 (rf_sh w) K 0 0 20 ([(0, .ref 0), (1, .int a1), (2, .int a2)], [.int y1], rf_MM w m1)
    refine rf_goto C 6 26 (by decide +kernel) ?_
    obtain rfl := Option.some.inj hg
    exact rf_iret C hE (by decide +kernel)
-- X11_arc
abbrev j_X11_arc : rf_J := (11, yX11_arc, cX11_arc, 3, (some .int))
theorem mw_X11_arc : rf_mv j_X11_arc (rf_R 11) 2 := ⟨⟨rf_mem 95 (by decide +kernel), rf_mem 95 (by decide +kernel), rf_mem 0 (by decide +kernel), rf_mem 95 (by decide +kernel)⟩, by decide +kernel, by decide⟩
def g_X11_arc (w : rf_w) (m : rf_m) (a1 : Int32) (a2 : Int32) : Option (Int32 × rf_m) := rf_b (g_X11_isWithin w m a1 0 90) fun y0 m0 => (if y0 = 0 then rf_b (g_X11_refused w m0 2) fun y1 m1 => some (y1, m1) else rf_b (g_X11_isWithin w m0 a2 1 1000000) fun y2 m2 => (if y2 = 0 then rf_b (g_X11_refused w m2 2) fun y6 m6 => some (y6, m6) else (if (m2.1 41 3) < 30 then rf_b (g_X6_addArc w m2 a1 a2) fun y3 m3 => rf_b (g_X11_answered w m3 y3) fun y4 m4 => some (y4, m4) else rf_b (g_X11_refused w m2 3) fun y5 m5 => some (y5, m5))))
theorem c_X11_arc {w : rf_w} {m : rf_m} {a1 : Int32} {a2 : Int32} {r : Int32 × rf_m} (hg : g_X11_arc w m a1 a2 = some r) : rf_Con j_X11_arc 2 (rf_sh w) [.ref 0, .int a1, .int a2] (rf_MM w m) (some (.int r.1)) (rf_MM w r.2) := by
  refine rf_con j_X11_arc 2 ⟨by decide +kernel, rfl, Nat.le_of_ble_eq_true rfl⟩ (fun K C hE => ?_)
  unfold g_X11_arc at hg
  show rf_V 3 (rf_sh w) K 0 0 0 ([(0, .ref 0), (1, .int a1), (2, .int a2)], [], rf_MM w m)
  refine rf_seg C [(.iload 1, 1), (.iconst 0, 1), (.iconst 90, 2)] (pc' := 4) (S' := ([(0, .ref 0), (1, .int a1), (2, .int a2)], [.int 90, .int 0, .int a1], rf_MM w m)) (by decide +kernel) rfl trivial ?_
  obtain ⟨y0, m0, hc0, hg⟩ := rf_b_some hg
  refine rf_calls C rf_fit0 j_X11_isWithin (As := [.int a1, .int 0, .int 90]) (rest := []) mw_X11_isWithin (c_X11_isWithin hc0) (by decide) lk_11_91 rfl rfl (Nat.le_of_ble_eq_true rfl) (by decide +kernel) ?_
  show rf_V 3 (rf_sh w) K 0 0 7 ([(0, .ref 0), (1, .int a1), (2, .int a2)], [.int y0], rf_MM w m0)
  refine rf_if_eq C 14 21 (by decide +kernel) (fun hc => ?_) (fun hc => ?_)
  · replace hg := (if_pos hc).symm.trans hg
    refine rf_seg C [(.aload 0, 1), (.iconst 2, 1)] (pc' := 23) (S' := ([(0, .ref 0), (1, .int a1), (2, .int a2)], [.int 2, .ref 0], rf_MM w m0)) (by decide +kernel) rfl trivial ?_
    obtain ⟨y1, m1, hc1, hg⟩ := rf_b_some hg
    refine rf_callv C rf_fit0 j_X11_refused (ci := 11) (As := [.int 2]) (rest := []) mw_X11_refused (c_X11_refused hc1) (by decide) rfl (by decide) lk_11_105 rfl rfl (Nat.le_of_ble_eq_true rfl) (by decide +kernel) ?_
    show rf_V 3 (rf_sh w) K 0 0 26 ([(0, .ref 0), (1, .int a1), (2, .int a2)], [.int y1], rf_MM w m1)
    obtain rfl := Option.some.inj hg
    exact rf_iret C hE (by decide +kernel)
  · replace hg := (if_neg hc).symm.trans hg
    refine rf_seg C [(.iload 2, 1), (.iconst 1, 1), (.iconst 1000000, 3)] (pc' := 15) (S' := ([(0, .ref 0), (1, .int a1), (2, .int a2)], [.int 1000000, .int 1, .int a2], rf_MM w m0)) (by decide +kernel) rfl trivial ?_
    obtain ⟨y2, m2, hc2, hg⟩ := rf_b_some hg
    refine rf_calls C rf_fit0 j_X11_isWithin (As := [.int a2, .int 1, .int 1000000]) (rest := []) mw_X11_isWithin (c_X11_isWithin hc2) (by decide) lk_11_91 rfl rfl (Nat.le_of_ble_eq_true rfl) (by decide +kernel) ?_
    show rf_V 3 (rf_sh w) K 0 0 18 ([(0, .ref 0), (1, .int a1), (2, .int a2)], [.int y2], rf_MM w m2)
    refine rf_if_ne C 9 27 (by decide +kernel) (fun hc => ?_) (fun hc => ?_)
    · replace hg := (if_neg hc).symm.trans hg
      refine rf_seg C [(.aload 0, 1), (.invokeinterface 11 3, 3), (.invokeinterface 6 3, 3), (.iconst 30, 2)] (pc' := 36) (S' := ([(0, .ref 0), (1, .int a1), (2, .int a2)], [.int 30, .int (m2.1 41 3)], rf_MM w m2)) (by decide +kernel) rfl trivial ?_
      refine rf_icmp_lt C 9 45 (by decide +kernel) (fun hc => ?_) (fun hc => ?_)
      · replace hg := (if_pos hc).symm.trans hg
        refine rf_seg C [(.aload 0, 1), (.aload 0, 1), (.invokeinterface 11 3, 3), (.iload 1, 1), (.iload 2, 1)] (pc' := 52) (S' := ([(0, .ref 0), (1, .int a1), (2, .int a2)], [.int a2, .int a1, .ref 41, .ref 0], rf_MM w m2)) (by decide +kernel) rfl trivial ?_
        obtain ⟨y3, m3, hc3, hg⟩ := rf_b_some hg
        refine rf_callv C rf_fit0 j_X6_addArc (ci := 6) (As := [.int a1, .int a2]) (rest := [.ref 0]) mw_X6_addArc (c_X6_addArc hc3) (by decide) rfl (by decide) lk_11_493 rfl rfl (Nat.le_of_ble_eq_true rfl) (by decide +kernel) ?_
        show rf_V 3 (rf_sh w) K 0 0 55 ([(0, .ref 0), (1, .int a1), (2, .int a2)], [.int y3, .ref 0], rf_MM w m3)
        obtain ⟨y4, m4, hc4, hg⟩ := rf_b_some hg
        refine rf_callv C rf_fit0 j_X11_answered (ci := 11) (As := [.int y3]) (rest := []) mw_X11_answered (c_X11_answered hc4) (by decide) rfl (by decide) lk_11_119 rfl rfl (Nat.le_of_ble_eq_true rfl) (by decide +kernel) ?_
        show rf_V 3 (rf_sh w) K 0 0 58 ([(0, .ref 0), (1, .int a1), (2, .int a2)], [.int y4], rf_MM w m4)
        obtain rfl := Option.some.inj hg
        exact rf_iret C hE (by decide +kernel)
      · replace hg := (if_neg hc).symm.trans hg
        refine rf_seg C [(.aload 0, 1), (.iconst 3, 1)] (pc' := 41) (S' := ([(0, .ref 0), (1, .int a1), (2, .int a2)], [.int 3, .ref 0], rf_MM w m2)) (by decide +kernel) rfl trivial ?_
        obtain ⟨y5, m5, hc5, hg⟩ := rf_b_some hg
        refine rf_callv C rf_fit0 j_X11_refused (ci := 11) (As := [.int 3]) (rest := []) mw_X11_refused (c_X11_refused hc5) (by decide) rfl (by decide) lk_11_105 rfl rfl (Nat.le_of_ble_eq_true rfl) (by decide +kernel) ?_
        show rf_V 3 (rf_sh w) K 0 0 44 ([(0, .ref 0), (1, .int a1), (2, .int a2)], [.int y5], rf_MM w m5)
        obtain rfl := Option.some.inj hg
        exact rf_iret C hE (by decide +kernel)
    · replace hg := (if_pos hc).symm.trans hg
      refine rf_seg C [(.aload 0, 1), (.iconst 2, 1)] (pc' := 23) (S' := ([(0, .ref 0), (1, .int a1), (2, .int a2)], [.int 2, .ref 0], rf_MM w m2)) (by decide +kernel) rfl trivial ?_
      obtain ⟨y6, m6, hc6, hg⟩ := rf_b_some hg
      refine rf_callv C rf_fit0 j_X11_refused (ci := 11) (As := [.int 2]) (rest := []) mw_X11_refused (c_X11_refused hc6) (by decide) rfl (by decide) lk_11_105 rfl rfl (Nat.le_of_ble_eq_true rfl) (by decide +kernel) ?_
      show rf_V 3 (rf_sh w) K 0 0 26 ([(0, .ref 0), (1, .int a1), (2, .int a2)], [.int y6], rf_MM w m6)
      obtain rfl := Option.some.inj hg
      exact rf_iret C hE (by decide +kernel)
-- X11_figure
abbrev j_X11_figure : rf_J := (11, yX11_figure, cX11_figure, 2, (some .long))
theorem mw_X11_figure : rf_mv j_X11_figure (rf_R 11) 1 := ⟨⟨rf_mem 96 (by decide +kernel), rf_mem 96 (by decide +kernel), rf_mem 0 (by decide +kernel), rf_mem 96 (by decide +kernel)⟩, by decide +kernel, by decide⟩
def g_X11_figure (w : rf_w) (m : rf_m) (a1 : Int32) : Option (Int64 × rf_m) := rf_b (g_X6_fit w m a1) fun y0 m0 => some (y0, m0)
theorem c_X11_figure {w : rf_w} {m : rf_m} {a1 : Int32} {r : Int64 × rf_m} (hg : g_X11_figure w m a1 = some r) : rf_Con j_X11_figure 3 (rf_sh w) [.ref 0, .int a1] (rf_MM w m) (some (.long r.1)) (rf_MM w r.2) := by
  refine rf_con j_X11_figure 3 ⟨by decide +kernel, rfl, Nat.le_of_ble_eq_true rfl⟩ (fun K C hE => ?_)
  unfold g_X11_figure at hg
  show rf_V 2 (rf_sh w) K 0 0 0 ([(0, .ref 0), (1, .int a1)], [], rf_MM w m)
  refine rf_seg C [(.aload 0, 1), (.invokeinterface 11 3, 3), (.iload 1, 1)] (pc' := 5) (S' := ([(0, .ref 0), (1, .int a1)], [.int a1, .ref 41], rf_MM w m)) (by decide +kernel) rfl trivial ?_
  obtain ⟨y0, m0, hc0, hg⟩ := rf_b_some hg
  refine rf_callv C rf_fit0 j_X6_fit (ci := 6) (As := [.int a1]) (rest := []) mw_X6_fit (c_X6_fit hc0) (by decide) rfl (by decide) lk_11_496 rfl rfl (Nat.le_of_ble_eq_true rfl) (by decide +kernel) ?_
  show rf_V 2 (rf_sh w) K 0 0 8 ([(0, .ref 0), (1, .int a1)], [.long y0], rf_MM w m0)
  obtain rfl := Option.some.inj hg
  exact rf_lret C hE (by decide +kernel)
-- X11_pass
abbrev j_X11_pass : rf_J := (11, yX11_pass, cX11_pass, 2, (some .int))
theorem mw_X11_pass : rf_mv j_X11_pass (rf_R 11) 1 := ⟨⟨rf_mem 97 (by decide +kernel), rf_mem 97 (by decide +kernel), rf_mem 0 (by decide +kernel), rf_mem 97 (by decide +kernel)⟩, by decide +kernel, by decide⟩
def g_X11_pass (w : rf_w) (m : rf_m) (a1 : Int32) : Option (Int32 × rf_m) := rf_b (g_X11_isWithin w m a1 1 1000) fun y0 m0 => (if y0 = 0 then rf_b (g_X11_refused w m0 2) fun y1 m1 => some (y1, m1) else (if ((m0.1 0 10) + a1) ≤ 9999 then rf_b (g_X11_answered w (rf_i m0 0 10 ((m0.1 0 10) + a1)) ((rf_i m0 0 10 ((m0.1 0 10) + a1)).1 0 10)) fun y2 m2 => some (y2, m2) else rf_b (g_X11_refused w m0 2) fun y3 m3 => some (y3, m3)))
theorem c_X11_pass {w : rf_w} {m : rf_m} {a1 : Int32} {r : Int32 × rf_m} (hg : g_X11_pass w m a1 = some r) : rf_Con j_X11_pass 2 (rf_sh w) [.ref 0, .int a1] (rf_MM w m) (some (.int r.1)) (rf_MM w r.2) := by
  refine rf_con j_X11_pass 2 ⟨by decide +kernel, rfl, Nat.le_of_ble_eq_true rfl⟩ (fun K C hE => ?_)
  unfold g_X11_pass at hg
  show rf_V 2 (rf_sh w) K 0 0 0 ([(0, .ref 0), (1, .int a1)], [], rf_MM w m)
  refine rf_seg C [(.iload 1, 1), (.iconst 1, 1), (.iconst 1000, 3)] (pc' := 5) (S' := ([(0, .ref 0), (1, .int a1)], [.int 1000, .int 1, .int a1], rf_MM w m)) (by decide +kernel) rfl trivial ?_
  obtain ⟨y0, m0, hc0, hg⟩ := rf_b_some hg
  refine rf_calls C rf_fit0 j_X11_isWithin (As := [.int a1, .int 1, .int 1000]) (rest := []) mw_X11_isWithin (c_X11_isWithin hc0) (by decide) lk_11_91 rfl rfl (Nat.le_of_ble_eq_true rfl) (by decide +kernel) ?_
  show rf_V 2 (rf_sh w) K 0 0 8 ([(0, .ref 0), (1, .int a1)], [.int y0], rf_MM w m0)
  refine rf_if_eq C 15 23 (by decide +kernel) (fun hc => ?_) (fun hc => ?_)
  · replace hg := (if_pos hc).symm.trans hg
    refine rf_seg C [(.aload 0, 1), (.iconst 2, 1)] (pc' := 25) (S' := ([(0, .ref 0), (1, .int a1)], [.int 2, .ref 0], rf_MM w m0)) (by decide +kernel) rfl trivial ?_
    obtain ⟨y1, m1, hc1, hg⟩ := rf_b_some hg
    refine rf_callv C rf_fit0 j_X11_refused (ci := 11) (As := [.int 2]) (rest := []) mw_X11_refused (c_X11_refused hc1) (by decide) rfl (by decide) lk_11_105 rfl rfl (Nat.le_of_ble_eq_true rfl) (by decide +kernel) ?_
    show rf_V 2 (rf_sh w) K 0 0 28 ([(0, .ref 0), (1, .int a1)], [.int y1], rf_MM w m1)
    obtain rfl := Option.some.inj hg
    exact rf_iret C hE (by decide +kernel)
  · replace hg := (if_neg hc).symm.trans hg
    refine rf_seg C [(.aload 0, 1), (.invokeinterface 11 10, 3), (.iload 1, 1), (.iadd, 1), (.iconst 9999, 3)] (pc' := 20) (S' := ([(0, .ref 0), (1, .int a1)], [.int 9999, .int ((m0.1 0 10) + a1)], rf_MM w m0)) (by decide +kernel) rfl trivial ?_
    refine rf_icmp_le C 9 29 (by decide +kernel) (fun hc => ?_) (fun hc => ?_)
    · replace hg := (if_pos hc).symm.trans hg
      refine rf_seg C [(.aload 0, 1), (.dup, 1), (.invokeinterface 11 10, 3), (.iload 1, 1), (.iadd, 1), (.multianewarray 11 10, 3), (.aload 0, 1), (.aload 0, 1), (.invokeinterface 11 10, 3)] (pc' := 44) (S' := ([(0, .ref 0), (1, .int a1)], [.int ((rf_i m0 0 10 ((m0.1 0 10) + a1)).1 0 10), .ref 0], rf_MM w (rf_i m0 0 10 ((m0.1 0 10) + a1)))) (by decide +kernel) rfl trivial ?_
      obtain ⟨y2, m2, hc2, hg⟩ := rf_b_some hg
      refine rf_callv C rf_fit0 j_X11_answered (ci := 11) (As := [.int ((rf_i m0 0 10 ((m0.1 0 10) + a1)).1 0 10)]) (rest := []) mw_X11_answered (c_X11_answered hc2) (by decide) rfl (by decide) lk_11_119 rfl rfl (Nat.le_of_ble_eq_true rfl) (by decide +kernel) ?_
      show rf_V 2 (rf_sh w) K 0 0 47 ([(0, .ref 0), (1, .int a1)], [.int y2], rf_MM w m2)
      obtain rfl := Option.some.inj hg
      exact rf_iret C hE (by decide +kernel)
    · replace hg := (if_neg hc).symm.trans hg
      refine rf_seg C [(.aload 0, 1), (.iconst 2, 1)] (pc' := 25) (S' := ([(0, .ref 0), (1, .int a1)], [.int 2, .ref 0], rf_MM w m0)) (by decide +kernel) rfl trivial ?_
      obtain ⟨y3, m3, hc3, hg⟩ := rf_b_some hg
      refine rf_callv C rf_fit0 j_X11_refused (ci := 11) (As := [.int 2]) (rest := []) mw_X11_refused (c_X11_refused hc3) (by decide) rfl (by decide) lk_11_105 rfl rfl (Nat.le_of_ble_eq_true rfl) (by decide +kernel) ?_
      show rf_V 2 (rf_sh w) K 0 0 28 ([(0, .ref 0), (1, .int a1)], [.int y3], rf_MM w m3)
      obtain rfl := Option.some.inj hg
      exact rf_iret C hE (by decide +kernel)
-- X11_count
abbrev j_X11_count : rf_J := (11, yX11_count, cX11_count, 2, (some .int))
theorem mw_X11_count : rf_mv j_X11_count (rf_R 11) 1 := ⟨⟨rf_mem 97 (by decide +kernel), rf_mem 97 (by decide +kernel), rf_mem 0 (by decide +kernel), rf_mem 97 (by decide +kernel)⟩, by decide +kernel, by decide⟩
def g_X11_count (w : rf_w) (m : rf_m) (a1 : Int32) : Option (Int32 × rf_m) := (if a1 = 0 then some (m.1 1 4, m) else if a1 = 1 then some (m.1 26 6, m) else if a1 = 2 then some (m.1 26 7, m) else if a1 = 3 then some (m.1 13 3, m) else if a1 = 4 then some (m.1 41 1, m) else if a1 = 5 then some (m.1 50 0, m) else if a1 = 6 then some (m.1 50 1, m) else if a1 = 7 then some (m.1 26 5, m) else if a1 = 8 then some (m.1 193 0, m) else if a1 = 9 then some (m.1 193 1, m) else if a1 = 10 then some (m.1 184 1, m) else if a1 = 11 then some (m.1 0 10, m) else if a1 = 12 then some (m.1 13 2, m) else if a1 = 13 then rf_bv (g_X3_freshenAll w m) fun m0 => rf_b (g_X3_againOnes w m0 (m0.1 0 10)) fun y1 m1 => some (y1, m1) else some ((-1), m))
theorem c_X11_count {w : rf_w} {m : rf_m} {a1 : Int32} {r : Int32 × rf_m} (hg : g_X11_count w m a1 = some r) : rf_Con j_X11_count 8 (rf_sh w) [.ref 0, .int a1] (rf_MM w m) (some (.int r.1)) (rf_MM w r.2) := by
  refine rf_con j_X11_count 8 ⟨by decide +kernel, rfl, Nat.le_of_ble_eq_true rfl⟩ (fun K C hE => ?_)
  unfold g_X11_count at hg
  show rf_V 2 (rf_sh w) K 0 0 0 ([(0, .ref 0), (1, .int a1)], [], rf_MM w m)
  refine rf_seg C [(.iload 1, 1)] (pc' := 1) (S' := ([(0, .ref 0), (1, .int a1)], [.int a1], rf_MM w m)) (by decide +kernel) rfl trivial ?_
  by_cases ht0 : a1 = 0
  · replace hg := (if_pos ht0).symm.trans hg
    refine rf_tabc C ht0 72 (by decide +kernel) ?_
    refine rf_seg C [(.aload 0, 1), (.invokeinterface 11 0, 3), (.invokeinterface 5 4, 3)] (pc' := 79) (S' := ([(0, .ref 0), (1, .int a1)], [.int (m.1 1 4)], rf_MM w m)) (by decide +kernel) rfl trivial ?_
    obtain rfl := Option.some.inj hg
    exact rf_iret C hE (by decide +kernel)
  · replace hg := (if_neg ht0).symm.trans hg
    by_cases ht1 : a1 = 1
    · replace hg := (if_pos ht1).symm.trans hg
      refine rf_tabc C ht1 80 (by decide +kernel) ?_
      refine rf_seg C [(.aload 0, 1), (.invokeinterface 11 2, 3), (.invokeinterface 3 6, 3)] (pc' := 87) (S' := ([(0, .ref 0), (1, .int a1)], [.int (m.1 26 6)], rf_MM w m)) (by decide +kernel) rfl trivial ?_
      obtain rfl := Option.some.inj hg
      exact rf_iret C hE (by decide +kernel)
    · replace hg := (if_neg ht1).symm.trans hg
      by_cases ht2 : a1 = 2
      · replace hg := (if_pos ht2).symm.trans hg
        refine rf_tabc C ht2 88 (by decide +kernel) ?_
        refine rf_seg C [(.aload 0, 1), (.invokeinterface 11 2, 3), (.invokeinterface 3 7, 3)] (pc' := 95) (S' := ([(0, .ref 0), (1, .int a1)], [.int (m.1 26 7)], rf_MM w m)) (by decide +kernel) rfl trivial ?_
        obtain rfl := Option.some.inj hg
        exact rf_iret C hE (by decide +kernel)
      · replace hg := (if_neg ht2).symm.trans hg
        by_cases ht3 : a1 = 3
        · replace hg := (if_pos ht3).symm.trans hg
          refine rf_tabc C ht3 96 (by decide +kernel) ?_
          refine rf_seg C [(.aload 0, 1), (.invokeinterface 11 1, 3), (.invokeinterface 9 3, 3)] (pc' := 103) (S' := ([(0, .ref 0), (1, .int a1)], [.int (m.1 13 3)], rf_MM w m)) (by decide +kernel) rfl trivial ?_
          obtain rfl := Option.some.inj hg
          exact rf_iret C hE (by decide +kernel)
        · replace hg := (if_neg ht3).symm.trans hg
          by_cases ht4 : a1 = 4
          · replace hg := (if_pos ht4).symm.trans hg
            refine rf_tabc C ht4 104 (by decide +kernel) ?_
            refine rf_seg C [(.aload 0, 1), (.invokeinterface 11 3, 3), (.invokeinterface 6 1, 3)] (pc' := 111) (S' := ([(0, .ref 0), (1, .int a1)], [.int (m.1 41 1)], rf_MM w m)) (by decide +kernel) rfl trivial ?_
            obtain rfl := Option.some.inj hg
            exact rf_iret C hE (by decide +kernel)
          · replace hg := (if_neg ht4).symm.trans hg
            by_cases ht5 : a1 = 5
            · replace hg := (if_pos ht5).symm.trans hg
              refine rf_tabc C ht5 112 (by decide +kernel) ?_
              refine rf_seg C [(.aload 0, 1), (.invokeinterface 11 4, 3), (.invokeinterface 7 0, 3)] (pc' := 119) (S' := ([(0, .ref 0), (1, .int a1)], [.int (m.1 50 0)], rf_MM w m)) (by decide +kernel) rfl trivial ?_
              obtain rfl := Option.some.inj hg
              exact rf_iret C hE (by decide +kernel)
            · replace hg := (if_neg ht5).symm.trans hg
              by_cases ht6 : a1 = 6
              · replace hg := (if_pos ht6).symm.trans hg
                refine rf_tabc C ht6 120 (by decide +kernel) ?_
                refine rf_seg C [(.aload 0, 1), (.invokeinterface 11 4, 3), (.invokeinterface 7 1, 3)] (pc' := 127) (S' := ([(0, .ref 0), (1, .int a1)], [.int (m.1 50 1)], rf_MM w m)) (by decide +kernel) rfl trivial ?_
                obtain rfl := Option.some.inj hg
                exact rf_iret C hE (by decide +kernel)
              · replace hg := (if_neg ht6).symm.trans hg
                by_cases ht7 : a1 = 7
                · replace hg := (if_pos ht7).symm.trans hg
                  refine rf_tabc C ht7 128 (by decide +kernel) ?_
                  refine rf_seg C [(.aload 0, 1), (.invokeinterface 11 2, 3), (.invokeinterface 3 5, 3)] (pc' := 135) (S' := ([(0, .ref 0), (1, .int a1)], [.int (m.1 26 5)], rf_MM w m)) (by decide +kernel) rfl trivial ?_
                  obtain rfl := Option.some.inj hg
                  exact rf_iret C hE (by decide +kernel)
                · replace hg := (if_neg ht7).symm.trans hg
                  by_cases ht8 : a1 = 8
                  · replace hg := (if_pos ht8).symm.trans hg
                    refine rf_tabc C ht8 136 (by decide +kernel) ?_
                    refine rf_seg C [(.aload 0, 1), (.invokeinterface 11 8, 3), (.invokeinterface 10 0, 3)] (pc' := 143) (S' := ([(0, .ref 0), (1, .int a1)], [.int (m.1 193 0)], rf_MM w m)) (by decide +kernel) rfl trivial ?_
                    obtain rfl := Option.some.inj hg
                    exact rf_iret C hE (by decide +kernel)
                  · replace hg := (if_neg ht8).symm.trans hg
                    by_cases ht9 : a1 = 9
                    · replace hg := (if_pos ht9).symm.trans hg
                      refine rf_tabc C ht9 144 (by decide +kernel) ?_
                      refine rf_seg C [(.aload 0, 1), (.invokeinterface 11 8, 3), (.invokeinterface 10 1, 3)] (pc' := 151) (S' := ([(0, .ref 0), (1, .int a1)], [.int (m.1 193 1)], rf_MM w m)) (by decide +kernel) rfl trivial ?_
                      obtain rfl := Option.some.inj hg
                      exact rf_iret C hE (by decide +kernel)
                    · replace hg := (if_neg ht9).symm.trans hg
                      by_cases ht10 : a1 = 10
                      · replace hg := (if_pos ht10).symm.trans hg
                        refine rf_tabc C ht10 152 (by decide +kernel) ?_
                        refine rf_seg C [(.aload 0, 1), (.invokeinterface 11 7, 3), (.invokeinterface 2 1, 3)] (pc' := 159) (S' := ([(0, .ref 0), (1, .int a1)], [.int (m.1 184 1)], rf_MM w m)) (by decide +kernel) rfl trivial ?_
                        obtain rfl := Option.some.inj hg
                        exact rf_iret C hE (by decide +kernel)
                      · replace hg := (if_neg ht10).symm.trans hg
                        by_cases ht11 : a1 = 11
                        · replace hg := (if_pos ht11).symm.trans hg
                          refine rf_tabc C ht11 160 (by decide +kernel) ?_
                          refine rf_seg C [(.aload 0, 1), (.invokeinterface 11 10, 3)] (pc' := 164) (S' := ([(0, .ref 0), (1, .int a1)], [.int (m.1 0 10)], rf_MM w m)) (by decide +kernel) rfl trivial ?_
                          obtain rfl := Option.some.inj hg
                          exact rf_iret C hE (by decide +kernel)
                        · replace hg := (if_neg ht11).symm.trans hg
                          by_cases ht12 : a1 = 12
                          · replace hg := (if_pos ht12).symm.trans hg
                            refine rf_tabc C ht12 165 (by decide +kernel) ?_
                            refine rf_seg C [(.aload 0, 1), (.invokeinterface 11 1, 3), (.invokeinterface 9 2, 3)] (pc' := 172) (S' := ([(0, .ref 0), (1, .int a1)], [.int (m.1 13 2)], rf_MM w m)) (by decide +kernel) rfl trivial ?_
                            obtain rfl := Option.some.inj hg
                            exact rf_iret C hE (by decide +kernel)
                          · replace hg := (if_neg ht12).symm.trans hg
                            by_cases ht13 : a1 = 13
                            · replace hg := (if_pos ht13).symm.trans hg
                              refine rf_tabc C ht13 173 (by decide +kernel) ?_
                              refine rf_seg C [(.aload 0, 1), (.invokeinterface 11 2, 3)] (pc' := 177) (S' := ([(0, .ref 0), (1, .int a1)], [.ref 26], rf_MM w m)) (by decide +kernel) rfl trivial ?_
                              obtain ⟨m0, hc0, hg⟩ := rf_bv_some hg
                              refine rf_callv C rf_fit0 j_X3_freshenAll (ci := 3) (As := []) (rest := []) mw_X3_freshenAll (c_X3_freshenAll hc0) (by decide) rfl (by decide) lk_11_346 rfl rfl (Nat.le_of_ble_eq_true rfl) (by decide +kernel) ?_
                              show rf_V 2 (rf_sh w) K 0 0 180 ([(0, .ref 0), (1, .int a1)], [], rf_MM w m0)
                              refine rf_seg C [(.aload 0, 1), (.invokeinterface 11 2, 3), (.aload 0, 1), (.invokeinterface 11 10, 3)] (pc' := 188) (S' := ([(0, .ref 0), (1, .int a1)], [.int (m0.1 0 10), .ref 26], rf_MM w m0)) (by decide +kernel) rfl trivial ?_
                              obtain ⟨y1, m1, hc1, hg⟩ := rf_b_some hg
                              refine rf_callv C rf_fit0 j_X3_againOnes (ci := 3) (As := [.int (m0.1 0 10)]) (rest := []) mw_X3_againOnes (c_X3_againOnes hc1) (by decide) rfl (by decide) lk_11_503 rfl rfl (Nat.le_of_ble_eq_true rfl) (by decide +kernel) ?_
                              show rf_V 2 (rf_sh w) K 0 0 191 ([(0, .ref 0), (1, .int a1)], [.int y1], rf_MM w m1)
                              obtain rfl := Option.some.inj hg
                              exact rf_iret C hE (by decide +kernel)
                            · replace hg := (if_neg ht13).symm.trans hg
                              refine rf_tabd C 0 13 192 (by decide +kernel) (by have t0 : (a1).toInt ≠ 0 := rf_ti ht0; have t1 : (a1).toInt ≠ 1 := rf_ti ht1; have t2 : (a1).toInt ≠ 2 := rf_ti ht2; have t3 : (a1).toInt ≠ 3 := rf_ti ht3; have t4 : (a1).toInt ≠ 4 := rf_ti ht4; have t5 : (a1).toInt ≠ 5 := rf_ti ht5; have t6 : (a1).toInt ≠ 6 := rf_ti ht6; have t7 : (a1).toInt ≠ 7 := rf_ti ht7; have t8 : (a1).toInt ≠ 8 := rf_ti ht8; have t9 : (a1).toInt ≠ 9 := rf_ti ht9; have t10 : (a1).toInt ≠ 10 := rf_ti ht10; have t11 : (a1).toInt ≠ 11 := rf_ti ht11; have t12 : (a1).toInt ≠ 12 := rf_ti ht12; have t13 : (a1).toInt ≠ 13 := rf_ti ht13; omega) ?_
                              refine rf_seg C [(.iconst (-1), 1)] (pc' := 193) (S' := ([(0, .ref 0), (1, .int a1)], [.int ((-1))], rf_MM w m)) (by decide +kernel) rfl trivial ?_
                              obtain rfl := Option.some.inj hg
                              exact rf_iret C hE (by decide +kernel)
-- X11_trouble
abbrev j_X11_trouble : rf_J := (11, yX11_trouble, cX11_trouble, 1, (some .int))
theorem mw_X11_trouble : rf_mv j_X11_trouble (rf_R 11) 0 := ⟨⟨rf_mem 97 (by decide +kernel), rf_mem 97 (by decide +kernel), rf_mem 0 (by decide +kernel), rf_mem 98 (by decide +kernel)⟩, by decide +kernel, by decide⟩
def g_X11_trouble (w : rf_w) (m : rf_m) : Option (Int32 × rf_m) := some (m.1 0 11, m)
theorem c_X11_trouble {w : rf_w} {m : rf_m} {r : Int32 × rf_m} (hg : g_X11_trouble w m = some r) : rf_Con j_X11_trouble 1 (rf_sh w) [.ref 0] (rf_MM w m) (some (.int r.1)) (rf_MM w r.2) := by
  refine rf_con j_X11_trouble 1 ⟨by decide +kernel, rfl, Nat.le_of_ble_eq_true rfl⟩ (fun K C hE => ?_)
  unfold g_X11_trouble at hg
  show rf_V 1 (rf_sh w) K 0 0 0 ([(0, .ref 0)], [], rf_MM w m)
  refine rf_seg C [(.aload 0, 1), (.invokeinterface 11 11, 3)] (pc' := 4) (S' := ([(0, .ref 0)], [.int (m.1 0 11)], rf_MM w m)) (by decide +kernel) rfl trivial ?_
  obtain rfl := Option.some.inj hg
  exact rf_iret C hE (by decide +kernel)
-- X12_put
abbrev j_X12_put : rf_J := (12, yX12_put, cX12_put, 3, none)
theorem mw_X12_put : rf_mv j_X12_put (rf_R 12) 2 := ⟨⟨rf_mem 49 (by decide +kernel), rf_mem 49 (by decide +kernel), rf_mem 9 (by decide +kernel), rf_mem 49 (by decide +kernel)⟩, by decide +kernel, by decide⟩
def g_X12_put (w : rf_w) (m : rf_m) (a0 : Nat) (a1 : Int32) (a2 : Int32) : Option (rf_m) := rf_g (rf_isO w a0 12) (rf_g (rf_isR w a0 5 (a0 + 1)) (rf_g (rf_isA w (a0 + 1) .int 300) (rf_g (rf_isR w a0 6 (a0 + 2)) (rf_g (rf_isA w (a0 + 2) .int 300) (rf_g (rf_in (m.1 a0 3) 300) (rf_g (rf_in ((rf_i m (a0 + 1) (Int32.toNatClampNeg (m.1 a0 3)) a1).1 a0 3) 300) (some (rf_i (rf_i (rf_i m (a0 + 1) (Int32.toNatClampNeg (m.1 a0 3)) a1) (a0 + 2) (Int32.toNatClampNeg ((rf_i m (a0 + 1) (Int32.toNatClampNeg (m.1 a0 3)) a1).1 a0 3)) a2) a0 3 (((rf_i (rf_i m (a0 + 1) (Int32.toNatClampNeg (m.1 a0 3)) a1) (a0 + 2) (Int32.toNatClampNeg ((rf_i m (a0 + 1) (Int32.toNatClampNeg (m.1 a0 3)) a1).1 a0 3)) a2).1 a0 3) + 1)))))))))
theorem c_X12_put {w : rf_w} {m : rf_m} {a0 : Nat} {a1 : Int32} {a2 : Int32} {r : rf_m} (hg : g_X12_put w m a0 a1 a2 = some r) : rf_Con j_X12_put 1 (rf_sh w) [.ref a0, .int a1, .int a2] (rf_MM w m) none (rf_MM w r) := by
  refine rf_con j_X12_put 1 ⟨by decide +kernel, rfl, Nat.le_of_ble_eq_true rfl⟩ (fun K C hE => ?_)
  unfold g_X12_put at hg
  show rf_V 3 (rf_sh w) K 0 0 0 ([(0, .ref a0), (1, .int a1), (2, .int a2)], [], rf_MM w m)
  obtain ⟨q0, hg⟩ := rf_g_some hg
  obtain ⟨q1, hg⟩ := rf_g_some hg
  obtain ⟨q2, hg⟩ := rf_g_some hg
  obtain ⟨q3, hg⟩ := rf_g_some hg
  obtain ⟨q4, hg⟩ := rf_g_some hg
  refine rf_seg C [(.aload 0, 1)] (pc' := 1) (S' := ([(0, .ref a0), (1, .int a1), (2, .int a2)], [.ref a0], rf_MM w m)) (by decide +kernel) rfl trivial ?_
  refine rf_d_getr C 12 5 (rf_isO_of q0) rfl (rf_isR_of q1) (by decide +kernel) ?_
  show rf_V 3 (rf_sh w) K 0 0 4 ([(0, .ref a0), (1, .int a1), (2, .int a2)], [.ref (a0 + 1)], rf_MM w m)
  refine rf_seg C [(.aload 0, 1)] (pc' := 5) (S' := ([(0, .ref a0), (1, .int a1), (2, .int a2)], [.ref a0, .ref (a0 + 1)], rf_MM w m)) (by decide +kernel) rfl trivial ?_
  refine rf_d_get C 12 3 (rf_isO_of q0) (by decide +kernel) ?_
  show rf_V 3 (rf_sh w) K 0 0 8 ([(0, .ref a0), (1, .int a1), (2, .int a2)], [.int (m.1 a0 3), .ref (a0 + 1)], rf_MM w m)
  refine rf_seg C [(.iload 1, 1)] (pc' := 9) (S' := ([(0, .ref a0), (1, .int a1), (2, .int a2)], [.int a1, .int (m.1 a0 3), .ref (a0 + 1)], rf_MM w m)) (by decide +kernel) rfl trivial ?_
  obtain ⟨q5, hg⟩ := rf_g_some hg
  refine rf_d_iastore C (rf_isA_of q2) (rf_in_of q5) (by decide +kernel) ?_
  show rf_V 3 (rf_sh w) K 0 0 10 ([(0, .ref a0), (1, .int a1), (2, .int a2)], [], rf_MM w (rf_i m (a0 + 1) (Int32.toNatClampNeg (m.1 a0 3)) a1))
  refine rf_seg C [(.aload 0, 1)] (pc' := 11) (S' := ([(0, .ref a0), (1, .int a1), (2, .int a2)], [.ref a0], rf_MM w (rf_i m (a0 + 1) (Int32.toNatClampNeg (m.1 a0 3)) a1))) (by decide +kernel) rfl trivial ?_
  refine rf_d_getr C 12 6 (rf_isO_of q0) rfl (rf_isR_of q3) (by decide +kernel) ?_
  show rf_V 3 (rf_sh w) K 0 0 14 ([(0, .ref a0), (1, .int a1), (2, .int a2)], [.ref (a0 + 2)], rf_MM w (rf_i m (a0 + 1) (Int32.toNatClampNeg (m.1 a0 3)) a1))
  refine rf_seg C [(.aload 0, 1)] (pc' := 15) (S' := ([(0, .ref a0), (1, .int a1), (2, .int a2)], [.ref a0, .ref (a0 + 2)], rf_MM w (rf_i m (a0 + 1) (Int32.toNatClampNeg (m.1 a0 3)) a1))) (by decide +kernel) rfl trivial ?_
  refine rf_d_get C 12 3 (rf_isO_of q0) (by decide +kernel) ?_
  show rf_V 3 (rf_sh w) K 0 0 18 ([(0, .ref a0), (1, .int a1), (2, .int a2)], [.int ((rf_i m (a0 + 1) (Int32.toNatClampNeg (m.1 a0 3)) a1).1 a0 3), .ref (a0 + 2)], rf_MM w (rf_i m (a0 + 1) (Int32.toNatClampNeg (m.1 a0 3)) a1))
  refine rf_seg C [(.iload 2, 1)] (pc' := 19) (S' := ([(0, .ref a0), (1, .int a1), (2, .int a2)], [.int a2, .int ((rf_i m (a0 + 1) (Int32.toNatClampNeg (m.1 a0 3)) a1).1 a0 3), .ref (a0 + 2)], rf_MM w (rf_i m (a0 + 1) (Int32.toNatClampNeg (m.1 a0 3)) a1))) (by decide +kernel) rfl trivial ?_
  obtain ⟨q6, hg⟩ := rf_g_some hg
  refine rf_d_iastore C (rf_isA_of q4) (rf_in_of q6) (by decide +kernel) ?_
  show rf_V 3 (rf_sh w) K 0 0 20 ([(0, .ref a0), (1, .int a1), (2, .int a2)], [], rf_MM w (rf_i (rf_i m (a0 + 1) (Int32.toNatClampNeg (m.1 a0 3)) a1) (a0 + 2) (Int32.toNatClampNeg ((rf_i m (a0 + 1) (Int32.toNatClampNeg (m.1 a0 3)) a1).1 a0 3)) a2))
  refine rf_seg C [(.aload 0, 1), (.dup, 1)] (pc' := 22) (S' := ([(0, .ref a0), (1, .int a1), (2, .int a2)], [.ref a0, .ref a0], rf_MM w (rf_i (rf_i m (a0 + 1) (Int32.toNatClampNeg (m.1 a0 3)) a1) (a0 + 2) (Int32.toNatClampNeg ((rf_i m (a0 + 1) (Int32.toNatClampNeg (m.1 a0 3)) a1).1 a0 3)) a2))) (by decide +kernel) rfl trivial ?_
  refine rf_d_get C 12 3 (rf_isO_of q0) (by decide +kernel) ?_
  show rf_V 3 (rf_sh w) K 0 0 25 ([(0, .ref a0), (1, .int a1), (2, .int a2)], [.int ((rf_i (rf_i m (a0 + 1) (Int32.toNatClampNeg (m.1 a0 3)) a1) (a0 + 2) (Int32.toNatClampNeg ((rf_i m (a0 + 1) (Int32.toNatClampNeg (m.1 a0 3)) a1).1 a0 3)) a2).1 a0 3), .ref a0], rf_MM w (rf_i (rf_i m (a0 + 1) (Int32.toNatClampNeg (m.1 a0 3)) a1) (a0 + 2) (Int32.toNatClampNeg ((rf_i m (a0 + 1) (Int32.toNatClampNeg (m.1 a0 3)) a1).1 a0 3)) a2))
  refine rf_seg C [(.iconst 1, 1), (.iadd, 1)] (pc' := 27) (S' := ([(0, .ref a0), (1, .int a1), (2, .int a2)], [.int (((rf_i (rf_i m (a0 + 1) (Int32.toNatClampNeg (m.1 a0 3)) a1) (a0 + 2) (Int32.toNatClampNeg ((rf_i m (a0 + 1) (Int32.toNatClampNeg (m.1 a0 3)) a1).1 a0 3)) a2).1 a0 3) + 1), .ref a0], rf_MM w (rf_i (rf_i m (a0 + 1) (Int32.toNatClampNeg (m.1 a0 3)) a1) (a0 + 2) (Int32.toNatClampNeg ((rf_i m (a0 + 1) (Int32.toNatClampNeg (m.1 a0 3)) a1).1 a0 3)) a2))) (by decide +kernel) rfl trivial ?_
  refine rf_d_put C 12 3 (rf_isO_of q0) rfl (by decide +kernel) ?_
  show rf_V 3 (rf_sh w) K 0 0 30 ([(0, .ref a0), (1, .int a1), (2, .int a2)], [], rf_MM w (rf_i (rf_i (rf_i m (a0 + 1) (Int32.toNatClampNeg (m.1 a0 3)) a1) (a0 + 2) (Int32.toNatClampNeg ((rf_i m (a0 + 1) (Int32.toNatClampNeg (m.1 a0 3)) a1).1 a0 3)) a2) a0 3 (((rf_i (rf_i m (a0 + 1) (Int32.toNatClampNeg (m.1 a0 3)) a1) (a0 + 2) (Int32.toNatClampNeg ((rf_i m (a0 + 1) (Int32.toNatClampNeg (m.1 a0 3)) a1).1 a0 3)) a2).1 a0 3) + 1)))
  obtain rfl := Option.some.inj hg
  exact rf_vret C hE (by decide +kernel)
-- X14_thrown
abbrev j_X14_thrown : rf_J := (14, yX14_thrown, cX14_thrown, 1, (some .int))
theorem mw_X14_thrown : rf_mv j_X14_thrown (rf_R 14) 0 := ⟨⟨rf_mem 35 (by decide +kernel), rf_mem 35 (by decide +kernel), rf_mem 0 (by decide +kernel), rf_mem 35 (by decide +kernel)⟩, by decide +kernel, by decide⟩
def g_X14_thrown (w : rf_w) (m : rf_m) : Option (Int32 × rf_m) := some (m.1 206 0, m)
theorem c_X14_thrown {w : rf_w} {m : rf_m} {r : Int32 × rf_m} (hg : g_X14_thrown w m = some r) : rf_Con j_X14_thrown 1 (rf_sh w) [.ref 206] (rf_MM w m) (some (.int r.1)) (rf_MM w r.2) := by
  refine rf_con j_X14_thrown 1 ⟨by decide +kernel, rfl, Nat.le_of_ble_eq_true rfl⟩ (fun K C hE => ?_)
  unfold g_X14_thrown at hg
  show rf_V 1 (rf_sh w) K 0 0 0 ([(0, .ref 206)], [], rf_MM w m)
  refine rf_seg C [(.aload 0, 1), (.invokeinterface 14 0, 3)] (pc' := 4) (S' := ([(0, .ref 206)], [.int (m.1 206 0)], rf_MM w m)) (by decide +kernel) rfl trivial ?_
  obtain rfl := Option.some.inj hg
  exact rf_iret C hE (by decide +kernel)
-- X14_refused
abbrev j_X14_refused : rf_J := (14, yX14_refused, cX14_refused, 2, (some .int))
theorem mw_X14_refused : rf_mv j_X14_refused (rf_R 14) 1 := ⟨⟨rf_mem 16 (by decide +kernel), rf_mem 16 (by decide +kernel), rf_mem 0 (by decide +kernel), rf_mem 16 (by decide +kernel)⟩, by decide +kernel, by decide⟩
def g_X14_refused (w : rf_w) (m : rf_m) (a1 : Int32) : Option (Int32 × rf_m) := some ((-1), rf_i (rf_i m 206 1 a1) 206 2 ((-1)))
theorem c_X14_refused {w : rf_w} {m : rf_m} {a1 : Int32} {r : Int32 × rf_m} (hg : g_X14_refused w m a1 = some r) : rf_Con j_X14_refused 1 (rf_sh w) [.ref 206, .int a1] (rf_MM w m) (some (.int r.1)) (rf_MM w r.2) := by
  refine rf_con j_X14_refused 1 ⟨by decide +kernel, rfl, Nat.le_of_ble_eq_true rfl⟩ (fun K C hE => ?_)
  unfold g_X14_refused at hg
  show rf_V 2 (rf_sh w) K 0 0 0 ([(0, .ref 206), (1, .int a1)], [], rf_MM w m)
  refine rf_seg C [(.aload 0, 1), (.iload 1, 1), (.multianewarray 14 1, 3), (.aload 0, 1), (.iconst (-1), 1), (.multianewarray 14 2, 3), (.iconst (-1), 1)] (pc' := 11) (S' := ([(0, .ref 206), (1, .int a1)], [.int ((-1))], rf_MM w (rf_i (rf_i m 206 1 a1) 206 2 ((-1))))) (by decide +kernel) rfl trivial ?_
  obtain rfl := Option.some.inj hg
  exact rf_iret C hE (by decide +kernel)
-- X14_denied
abbrev j_X14_denied : rf_J := (14, yX14_denied, cX14_denied, 2, (some .boolean))
theorem mw_X14_denied : rf_mv j_X14_denied (rf_R 14) 1 := ⟨⟨rf_mem 14 (by decide +kernel), rf_mem 14 (by decide +kernel), rf_mem 0 (by decide +kernel), rf_mem 14 (by decide +kernel)⟩, by decide +kernel, by decide⟩
def g_X14_denied (w : rf_w) (m : rf_m) (a1 : Int32) : Option (Int32 × rf_m) := some (0, rf_i (rf_i m 206 1 a1) 206 2 ((-1)))
theorem c_X14_denied {w : rf_w} {m : rf_m} {a1 : Int32} {r : Int32 × rf_m} (hg : g_X14_denied w m a1 = some r) : rf_Con j_X14_denied 1 (rf_sh w) [.ref 206, .int a1] (rf_MM w m) (some (.int r.1)) (rf_MM w r.2) := by
  refine rf_con j_X14_denied 1 ⟨by decide +kernel, rfl, Nat.le_of_ble_eq_true rfl⟩ (fun K C hE => ?_)
  unfold g_X14_denied at hg
  show rf_V 2 (rf_sh w) K 0 0 0 ([(0, .ref 206), (1, .int a1)], [], rf_MM w m)
  refine rf_seg C [(.aload 0, 1), (.iload 1, 1), (.multianewarray 14 1, 3), (.aload 0, 1), (.iconst (-1), 1), (.multianewarray 14 2, 3), (.iconst 0, 1)] (pc' := 11) (S' := ([(0, .ref 206), (1, .int a1)], [.int 0], rf_MM w (rf_i (rf_i m 206 1 a1) 206 2 ((-1))))) (by decide +kernel) rfl trivial ?_
  obtain rfl := Option.some.inj hg
  exact rf_zret C hE (by decide) (by decide +kernel)
-- X14_done
abbrev j_X14_done : rf_J := (14, yX14_done, cX14_done, 2, (some .int))
theorem mw_X14_done : rf_mv j_X14_done (rf_R 14) 1 := ⟨⟨rf_mem 16 (by decide +kernel), rf_mem 16 (by decide +kernel), rf_mem 0 (by decide +kernel), rf_mem 16 (by decide +kernel)⟩, by decide +kernel, by decide⟩
def g_X14_done (w : rf_w) (m : rf_m) (a1 : Int32) : Option (Int32 × rf_m) := some (a1, rf_i (rf_i m 206 1 0) 206 2 ((-1)))
theorem c_X14_done {w : rf_w} {m : rf_m} {a1 : Int32} {r : Int32 × rf_m} (hg : g_X14_done w m a1 = some r) : rf_Con j_X14_done 1 (rf_sh w) [.ref 206, .int a1] (rf_MM w m) (some (.int r.1)) (rf_MM w r.2) := by
  refine rf_con j_X14_done 1 ⟨by decide +kernel, rfl, Nat.le_of_ble_eq_true rfl⟩ (fun K C hE => ?_)
  unfold g_X14_done at hg
  show rf_V 2 (rf_sh w) K 0 0 0 ([(0, .ref 206), (1, .int a1)], [], rf_MM w m)
  refine rf_seg C [(.aload 0, 1), (.iconst 0, 1), (.multianewarray 14 1, 3), (.aload 0, 1), (.iconst (-1), 1), (.multianewarray 14 2, 3), (.iload 1, 1)] (pc' := 11) (S' := ([(0, .ref 206), (1, .int a1)], [.int a1], rf_MM w (rf_i (rf_i m 206 1 0) 206 2 ((-1))))) (by decide +kernel) rfl trivial ?_
  obtain rfl := Option.some.inj hg
  exact rf_iret C hE (by decide +kernel)
-- X14_granted
abbrev j_X14_granted : rf_J := (14, yX14_granted, cX14_granted, 1, (some .boolean))
theorem mw_X14_granted : rf_mv j_X14_granted (rf_R 14) 0 := ⟨⟨rf_mem 15 (by decide +kernel), rf_mem 15 (by decide +kernel), rf_mem 0 (by decide +kernel), rf_mem 15 (by decide +kernel)⟩, by decide +kernel, by decide⟩
def g_X14_granted (w : rf_w) (m : rf_m) : Option (Int32 × rf_m) := some (1, rf_i (rf_i m 206 1 0) 206 2 ((-1)))
theorem c_X14_granted {w : rf_w} {m : rf_m} {r : Int32 × rf_m} (hg : g_X14_granted w m = some r) : rf_Con j_X14_granted 1 (rf_sh w) [.ref 206] (rf_MM w m) (some (.int r.1)) (rf_MM w r.2) := by
  refine rf_con j_X14_granted 1 ⟨by decide +kernel, rfl, Nat.le_of_ble_eq_true rfl⟩ (fun K C hE => ?_)
  unfold g_X14_granted at hg
  show rf_V 1 (rf_sh w) K 0 0 0 ([(0, .ref 206)], [], rf_MM w m)
  refine rf_seg C [(.aload 0, 1), (.iconst 0, 1), (.multianewarray 14 1, 3), (.aload 0, 1), (.iconst (-1), 1), (.multianewarray 14 2, 3), (.iconst 1, 1)] (pc' := 11) (S' := ([(0, .ref 206)], [.int 1], rf_MM w (rf_i (rf_i m 206 1 0) 206 2 ((-1))))) (by decide +kernel) rfl trivial ?_
  obtain rfl := Option.some.inj hg
  exact rf_zret C hE (by decide) (by decide +kernel)
-- X14_in
abbrev j_X14_in : rf_J := (14, yX14_in, cX14_in, 3, (some .boolean))
theorem mw_X14_in : rf_ms j_X14_in 3 := ⟨⟨rf_mem 15 (by decide +kernel), rf_mem 0 (by decide +kernel), rf_mem 15 (by decide +kernel)⟩, by decide +kernel, by decide⟩
def g_X14_in (w : rf_w) (m : rf_m) (a0 : Int32) (a1 : Int32) (a2 : Int32) : Option (Int32 × rf_m) := (if a0 < a1 then some (0, m) else (if a2 < a0 then some (0, m) else some (1, m)))
theorem c_X14_in {w : rf_w} {m : rf_m} {a0 : Int32} {a1 : Int32} {a2 : Int32} {r : Int32 × rf_m} (hg : g_X14_in w m a0 a1 a2 = some r) : rf_Con j_X14_in 1 (rf_sh w) [.int a0, .int a1, .int a2] (rf_MM w m) (some (.int r.1)) (rf_MM w r.2) := by
  refine rf_con j_X14_in 1 ⟨by decide +kernel, rfl, Nat.le_of_ble_eq_true rfl⟩ (fun K C hE => ?_)
  unfold g_X14_in at hg
  show rf_V 3 (rf_sh w) K 0 0 0 ([(0, .int a0), (1, .int a1), (2, .int a2)], [], rf_MM w m)
  refine rf_seg C [(.iload 0, 1), (.iload 1, 1)] (pc' := 2) (S' := ([(0, .int a0), (1, .int a1), (2, .int a2)], [.int a1, .int a0], rf_MM w m)) (by decide +kernel) rfl trivial ?_
  refine rf_icmp_lt C 12 14 (by decide +kernel) (fun hc => ?_) (fun hc => ?_)
  · replace hg := (if_pos hc).symm.trans hg
    refine rf_seg C [(.iconst 0, 1)] (pc' := 15) (S' := ([(0, .int a0), (1, .int a1), (2, .int a2)], [.int 0], rf_MM w m)) (by decide +kernel) rfl trivial ?_
    obtain rfl := Option.some.inj hg
    exact rf_zret C hE (by decide) (by decide +kernel)
  · replace hg := (if_neg hc).symm.trans hg
    refine rf_seg C [(.iload 0, 1), (.iload 2, 1)] (pc' := 7) (S' := ([(0, .int a0), (1, .int a1), (2, .int a2)], [.int a2, .int a0], rf_MM w m)) (by decide +kernel) rfl trivial ?_
    refine rf_icmp_gt C 7 14 (by decide +kernel) (fun hc => ?_) (fun hc => ?_)
    · replace hg := (if_pos hc).symm.trans hg
      refine rf_seg C [(.iconst 0, 1)] (pc' := 15) (S' := ([(0, .int a0), (1, .int a1), (2, .int a2)], [.int 0], rf_MM w m)) (by decide +kernel) rfl trivial ?_
      obtain rfl := Option.some.inj hg
      exact rf_zret C hE (by decide) (by decide +kernel)
    · replace hg := (if_neg hc).symm.trans hg
      refine rf_seg C [(.iconst 1, 1)] (pc' := 11) (S' := ([(0, .int a0), (1, .int a1), (2, .int a2)], [.int 1], rf_MM w m)) (by decide +kernel) rfl trivial ?_
      refine rf_goto C 4 15 (by decide +kernel) ?_
      obtain rfl := Option.some.inj hg
      exact rf_zret C hE (by decide) (by decide +kernel)
-- X14_bits
abbrev j_X14_bits : rf_J := (14, yX14_bits, cX14_bits, 3, (some .int))
theorem mw_X14_bits : rf_ms j_X14_bits 1 := ⟨⟨rf_mem 70 (by decide +kernel), rf_mem 0 (by decide +kernel), rf_mem 70 (by decide +kernel)⟩, by decide +kernel, by decide⟩
def g_X14_bits_4_b (w : rf_w) (rec4 : Int32 → Int32 → rf_m → Option (Int32 × rf_m)) (a1 : Int32) (a2 : Int32) (m : rf_m) : Option (Int32 × rf_m) := (if a2 = 0 then some (a1, m) else rec4 (a1 + 1) (a2 &&& (a2 - 1)) m)
def g_X14_bits_4 (w : rf_w) : Nat → Int32 → Int32 → rf_m → Option (Int32 × rf_m)
  | 0, _, _, _ => none
  | n + 1, a1, a2, m => g_X14_bits_4_b w (g_X14_bits_4 w n) a1 a2 m
def g_X14_bits (w : rf_w) (m : rf_m) (a0 : Int32) : Option (Int32 × rf_m) := g_X14_bits_4 w rf_fuel 0 a0 m
theorem s_X14_bits_4_b {w : rf_w} {K : rf_K} {r : Int32 × rf_m} (C : rf_Ctx 14 cX14_bits 3 1 (rf_sh w) K) (hE : rf_End (some .int) K (rf_sh w) 0 0 (some (.int r.1)) (rf_MM w r.2)) {rec4 : Int32 → Int32 → rf_m → Option (Int32 × rf_m)} (hr4 : ∀ (a1 : Int32) (a2 : Int32) (m : rf_m), rec4 a1 a2 m = some r → rf_V 3 (rf_sh w) K 0 0 4 ([(1, .int a1), (2, .int a2)], [], rf_MM w m)) (a1 : Int32) (a2 : Int32) (m : rf_m) (hg : g_X14_bits_4_b w rec4 a1 a2 m = some r) : rf_V 3 (rf_sh w) K 0 0 4 ([(1, .int a1), (2, .int a2)], [], rf_MM w m) := by
  unfold g_X14_bits_4_b at hg
  refine rf_seg C [(.iload 2, 1)] (pc' := 5) (S' := ([(1, .int a1), (2, .int a2)], [.int a2], rf_MM w m)) (by decide +kernel) rfl trivial ?_
  refine rf_if_eq C 15 20 (by decide +kernel) (fun hc => ?_) (fun hc => ?_)
  · replace hg := (if_pos hc).symm.trans hg
    refine rf_seg C [(.iload 1, 1)] (pc' := 21) (S' := ([(1, .int a1), (2, .int a2)], [.int a1], rf_MM w m)) (by decide +kernel) rfl trivial ?_
    obtain rfl := Option.some.inj hg
    exact rf_iret C hE (by decide +kernel)
  · replace hg := (if_neg hc).symm.trans hg
    refine rf_seg C [(.iinc 1 1, 3), (.iload 2, 1), (.iload 2, 1), (.iconst 1, 1), (.isub, 1), (.iand, 1), (.istore 2, 1)] (pc' := 17) (S' := ([(2, .int (a2 &&& (a2 - 1))), (1, .int (a1 + 1))], [], rf_MM w m)) (by decide +kernel) rfl trivial ?_
    refine rf_goto C (-13) 4 (by decide +kernel) ?_
    refine rf_few [1, 0] rfl ?_
    exact hr4 (a1 + 1) (a2 &&& (a2 - 1)) m hg
theorem s_X14_bits_4 {w : rf_w} {K : rf_K} {r : Int32 × rf_m} (C : rf_Ctx 14 cX14_bits 3 1 (rf_sh w) K) (hE : rf_End (some .int) K (rf_sh w) 0 0 (some (.int r.1)) (rf_MM w r.2)) (n : Nat) : ∀ (a1 : Int32) (a2 : Int32) (m : rf_m), g_X14_bits_4 w n a1 a2 m = some r → rf_V 3 (rf_sh w) K 0 0 4 ([(1, .int a1), (2, .int a2)], [], rf_MM w m) := by
  induction n with
  | zero => intro a1 a2 m hg; cases hg
  | succ n ih => intro a1 a2 m hg; exact s_X14_bits_4_b C hE ih a1 a2 m hg
theorem c_X14_bits {w : rf_w} {m : rf_m} {a0 : Int32} {r : Int32 × rf_m} (hg : g_X14_bits w m a0 = some r) : rf_Con j_X14_bits 1 (rf_sh w) [.int a0] (rf_MM w m) (some (.int r.1)) (rf_MM w r.2) := by
  refine rf_con j_X14_bits 1 ⟨by decide +kernel, rfl, Nat.le_of_ble_eq_true rfl⟩ (fun K C hE => ?_)
  unfold g_X14_bits at hg
  show rf_V 3 (rf_sh w) K 0 0 0 ([(0, .int a0)], [], rf_MM w m)
  refine rf_seg C [(.iconst 0, 1), (.istore 1, 1), (.iload 0, 1), (.istore 2, 1)] (pc' := 4) (S' := ([(2, .int a0), (1, .int 0), (0, .int a0)], [], rf_MM w m)) (by decide +kernel) rfl trivial ?_
  refine rf_few [1, 0] rfl ?_
  exact s_X14_bits_4 C hE rf_fuel 0 a0 m hg
-- X14_down
abbrev j_X14_down : rf_J := (14, yX14_down, cX14_down, 2, (some .int))
theorem mw_X14_down : rf_ms j_X14_down 2 := ⟨⟨rf_mem 21 (by decide +kernel), rf_mem 0 (by decide +kernel), rf_mem 21 (by decide +kernel)⟩, by decide +kernel, by decide⟩
def g_X14_down (w : rf_w) (m : rf_m) (a0 : Int32) (a1 : Int32) : Option (Int32 × rf_m) := rf_g (rf_nz a1) (rf_g (rf_nz a1) ((if (0 : Int32) ≤ (a0 - a0 / a1 * a1) then some ((a0 / a1) - 0, m) else some ((a0 / a1) - 1, m))))
theorem c_X14_down {w : rf_w} {m : rf_m} {a0 : Int32} {a1 : Int32} {r : Int32 × rf_m} (hg : g_X14_down w m a0 a1 = some r) : rf_Con j_X14_down 1 (rf_sh w) [.int a0, .int a1] (rf_MM w m) (some (.int r.1)) (rf_MM w r.2) := by
  refine rf_con j_X14_down 1 ⟨by decide +kernel, rfl, Nat.le_of_ble_eq_true rfl⟩ (fun K C hE => ?_)
  unfold g_X14_down at hg
  show rf_V 2 (rf_sh w) K 0 0 0 ([(0, .int a0), (1, .int a1)], [], rf_MM w m)
  obtain ⟨q0, hg⟩ := rf_g_some hg
  obtain ⟨q1, hg⟩ := rf_g_some hg
  refine rf_seg C [(.iload 0, 1), (.iload 1, 1), (.idiv, 1), (.iload 0, 1), (.iload 1, 1), (.irem, 1)] (pc' := 6) (S' := ([(0, .int a0), (1, .int a1)], [.int (a0 - a0 / a1 * a1), .int (a0 / a1)], rf_MM w m)) (by decide +kernel) rfl (by exact ⟨(rf_nz_of q0), (rf_nz_of q1)⟩) ?_
  refine rf_if_ge C 7 13 (by decide +kernel) (fun hc => ?_) (fun hc => ?_)
  · replace hg := (if_pos hc).symm.trans hg
    refine rf_seg C [(.iconst 0, 1), (.isub, 1)] (pc' := 15) (S' := ([(0, .int a0), (1, .int a1)], [.int ((a0 / a1) - 0)], rf_MM w m)) (by decide +kernel) rfl trivial ?_
    obtain rfl := Option.some.inj hg
    exact rf_iret C hE (by decide +kernel)
  · replace hg := (if_neg hc).symm.trans hg
    refine rf_seg C [(.iconst 1, 1)] (pc' := 10) (S' := ([(0, .int a0), (1, .int a1)], [.int 1, .int (a0 / a1)], rf_MM w m)) (by decide +kernel) rfl trivial ?_
    refine rf_goto C 4 14 (by decide +kernel) ?_
    refine rf_seg C [(.isub, 1)] (pc' := 15) (S' := ([(0, .int a0), (1, .int a1)], [.int ((a0 / a1) - 1)], rf_MM w m)) (by decide +kernel) rfl trivial ?_
    obtain rfl := Option.some.inj hg
    exact rf_iret C hE (by decide +kernel)
-- X14_downLong
abbrev j_X14_downLong : rf_J := (14, yX14_downLong, cX14_downLong, 4, (some .long))
theorem mw_X14_downLong : rf_ms j_X14_downLong 2 := ⟨⟨rf_mem 96 (by decide +kernel), rf_mem 0 (by decide +kernel), rf_mem 96 (by decide +kernel)⟩, by decide +kernel, by decide⟩
def g_X14_downLong (w : rf_w) (m : rf_m) (a0 : Int64) (a2 : Int64) : Option (Int64 × rf_m) := rf_g (rf_nzl a2) (rf_g (rf_nzl a2) ((if (0 : Int32) ≤ (lg_cmp (a0 - a0 / a2 * a2) 0) then some ((a0 / a2) - 0, m) else some ((a0 / a2) - 1, m))))
theorem c_X14_downLong {w : rf_w} {m : rf_m} {a0 : Int64} {a2 : Int64} {r : Int64 × rf_m} (hg : g_X14_downLong w m a0 a2 = some r) : rf_Con j_X14_downLong 1 (rf_sh w) [.long a0, .long a2] (rf_MM w m) (some (.long r.1)) (rf_MM w r.2) := by
  refine rf_con j_X14_downLong 1 ⟨by decide +kernel, rfl, Nat.le_of_ble_eq_true rfl⟩ (fun K C hE => ?_)
  unfold g_X14_downLong at hg
  show rf_V 4 (rf_sh w) K 0 0 0 ([(0, .long a0), (2, .long a2)], [], rf_MM w m)
  obtain ⟨q0, hg⟩ := rf_g_some hg
  obtain ⟨q1, hg⟩ := rf_g_some hg
  refine rf_seg C [(.lload 0, 1), (.lload 2, 1), (.ldiv, 1), (.lload 0, 1), (.lload 2, 1), (.lrem, 1), (.goto_w 0, 1), (.lcmp, 1)] (pc' := 8) (S' := ([(0, .long a0), (2, .long a2)], [.int (lg_cmp (a0 - a0 / a2 * a2) 0), .long (a0 / a2)], rf_MM w m)) (by decide +kernel) rfl (by exact ⟨(rf_nzl_of q0), (rf_nzl_of q1)⟩) ?_
  refine rf_if_ge C 7 15 (by decide +kernel) (fun hc => ?_) (fun hc => ?_)
  · replace hg := (if_pos hc).symm.trans hg
    refine rf_seg C [(.goto_w 0, 1), (.lsub, 1)] (pc' := 17) (S' := ([(0, .long a0), (2, .long a2)], [.long ((a0 / a2) - 0)], rf_MM w m)) (by decide +kernel) rfl trivial ?_
    obtain rfl := Option.some.inj hg
    exact rf_lret C hE (by decide +kernel)
  · replace hg := (if_neg hc).symm.trans hg
    refine rf_seg C [(.goto_w 1, 1)] (pc' := 12) (S' := ([(0, .long a0), (2, .long a2)], [.long 1, .long (a0 / a2)], rf_MM w m)) (by decide +kernel) rfl trivial ?_
    refine rf_goto C 4 16 (by decide +kernel) ?_
    refine rf_seg C [(.lsub, 1)] (pc' := 17) (S' := ([(0, .long a0), (2, .long a2)], [.long ((a0 / a2) - 1)], rf_MM w m)) (by decide +kernel) rfl trivial ?_
    obtain rfl := Option.some.inj hg
    exact rf_lret C hE (by decide +kernel)
-- X14_isCell
abbrev j_X14_isCell : rf_J := (14, yX14_isCell, cX14_isCell, 1, (some .boolean))
theorem mw_X14_isCell : rf_ms j_X14_isCell 1 := ⟨⟨rf_mem 14 (by decide +kernel), rf_mem 0 (by decide +kernel), rf_mem 14 (by decide +kernel)⟩, by decide +kernel, by decide⟩
def g_X14_isCell (w : rf_w) (m : rf_m) (a0 : Int32) : Option (Int32 × rf_m) := (if a0 < 0 then some (0, m) else (if 1024 ≤ a0 then some (0, m) else some (1, m)))
theorem c_X14_isCell {w : rf_w} {m : rf_m} {a0 : Int32} {r : Int32 × rf_m} (hg : g_X14_isCell w m a0 = some r) : rf_Con j_X14_isCell 1 (rf_sh w) [.int a0] (rf_MM w m) (some (.int r.1)) (rf_MM w r.2) := by
  refine rf_con j_X14_isCell 1 ⟨by decide +kernel, rfl, Nat.le_of_ble_eq_true rfl⟩ (fun K C hE => ?_)
  unfold g_X14_isCell at hg
  show rf_V 1 (rf_sh w) K 0 0 0 ([(0, .int a0)], [], rf_MM w m)
  refine rf_seg C [(.iload 0, 1)] (pc' := 1) (S' := ([(0, .int a0)], [.int a0], rf_MM w m)) (by decide +kernel) rfl trivial ?_
  refine rf_if_lt C 14 15 (by decide +kernel) (fun hc => ?_) (fun hc => ?_)
  · replace hg := (if_pos hc).symm.trans hg
    refine rf_seg C [(.iconst 0, 1)] (pc' := 16) (S' := ([(0, .int a0)], [.int 0], rf_MM w m)) (by decide +kernel) rfl trivial ?_
    obtain rfl := Option.some.inj hg
    exact rf_zret C hE (by decide) (by decide +kernel)
  · replace hg := (if_neg hc).symm.trans hg
    refine rf_seg C [(.iload 0, 1), (.iconst 1024, 3)] (pc' := 8) (S' := ([(0, .int a0)], [.int 1024, .int a0], rf_MM w m)) (by decide +kernel) rfl trivial ?_
    refine rf_icmp_ge C 7 15 (by decide +kernel) (fun hc => ?_) (fun hc => ?_)
    · replace hg := (if_pos hc).symm.trans hg
      refine rf_seg C [(.iconst 0, 1)] (pc' := 16) (S' := ([(0, .int a0)], [.int 0], rf_MM w m)) (by decide +kernel) rfl trivial ?_
      obtain rfl := Option.some.inj hg
      exact rf_zret C hE (by decide) (by decide +kernel)
    · replace hg := (if_neg hc).symm.trans hg
      refine rf_seg C [(.iconst 1, 1)] (pc' := 12) (S' := ([(0, .int a0)], [.int 1], rf_MM w m)) (by decide +kernel) rfl trivial ?_
      refine rf_goto C 4 16 (by decide +kernel) ?_
      obtain rfl := Option.some.inj hg
      exact rf_zret C hE (by decide) (by decide +kernel)
-- X14_isMark
abbrev j_X14_isMark : rf_J := (14, yX14_isMark, cX14_isMark, 2, (some .boolean))
theorem mw_X14_isMark : rf_mv j_X14_isMark (rf_R 14) 1 := ⟨⟨rf_mem 17 (by decide +kernel), rf_mem 17 (by decide +kernel), rf_mem 0 (by decide +kernel), rf_mem 17 (by decide +kernel)⟩, by decide +kernel, by decide⟩
def g_X14_isMark (w : rf_w) (m : rf_m) (a1 : Int32) : Option (Int32 × rf_m) := (if a1 < 0 then some (0, m) else (if (m.1 206 4) ≤ a1 then some (0, m) else some (1, m)))
theorem c_X14_isMark {w : rf_w} {m : rf_m} {a1 : Int32} {r : Int32 × rf_m} (hg : g_X14_isMark w m a1 = some r) : rf_Con j_X14_isMark 1 (rf_sh w) [.ref 206, .int a1] (rf_MM w m) (some (.int r.1)) (rf_MM w r.2) := by
  refine rf_con j_X14_isMark 1 ⟨by decide +kernel, rfl, Nat.le_of_ble_eq_true rfl⟩ (fun K C hE => ?_)
  unfold g_X14_isMark at hg
  show rf_V 2 (rf_sh w) K 0 0 0 ([(0, .ref 206), (1, .int a1)], [], rf_MM w m)
  refine rf_seg C [(.iload 1, 1)] (pc' := 1) (S' := ([(0, .ref 206), (1, .int a1)], [.int a1], rf_MM w m)) (by decide +kernel) rfl trivial ?_
  refine rf_if_lt C 15 16 (by decide +kernel) (fun hc => ?_) (fun hc => ?_)
  · replace hg := (if_pos hc).symm.trans hg
    refine rf_seg C [(.iconst 0, 1)] (pc' := 17) (S' := ([(0, .ref 206), (1, .int a1)], [.int 0], rf_MM w m)) (by decide +kernel) rfl trivial ?_
    obtain rfl := Option.some.inj hg
    exact rf_zret C hE (by decide) (by decide +kernel)
  · replace hg := (if_neg hc).symm.trans hg
    refine rf_seg C [(.iload 1, 1), (.aload 0, 1), (.invokeinterface 14 4, 3)] (pc' := 9) (S' := ([(0, .ref 206), (1, .int a1)], [.int (m.1 206 4), .int a1], rf_MM w m)) (by decide +kernel) rfl trivial ?_
    refine rf_icmp_ge C 7 16 (by decide +kernel) (fun hc => ?_) (fun hc => ?_)
    · replace hg := (if_pos hc).symm.trans hg
      refine rf_seg C [(.iconst 0, 1)] (pc' := 17) (S' := ([(0, .ref 206), (1, .int a1)], [.int 0], rf_MM w m)) (by decide +kernel) rfl trivial ?_
      obtain rfl := Option.some.inj hg
      exact rf_zret C hE (by decide) (by decide +kernel)
    · replace hg := (if_neg hc).symm.trans hg
      refine rf_seg C [(.iconst 1, 1)] (pc' := 13) (S' := ([(0, .ref 206), (1, .int a1)], [.int 1], rf_MM w m)) (by decide +kernel) rfl trivial ?_
      refine rf_goto C 4 17 (by decide +kernel) ?_
      obtain rfl := Option.some.inj hg
      exact rf_zret C hE (by decide) (by decide +kernel)
-- X14_isDay
abbrev j_X14_isDay : rf_J := (14, yX14_isDay, cX14_isDay, 1, (some .boolean))
theorem mw_X14_isDay : rf_ms j_X14_isDay 1 := ⟨⟨rf_mem 19 (by decide +kernel), rf_mem 0 (by decide +kernel), rf_mem 19 (by decide +kernel)⟩, by decide +kernel, by decide⟩
def g_X14_isDay (w : rf_w) (m : rf_m) (a0 : Int32) : Option (Int32 × rf_m) := (if a0 < 0 then some (0, m) else (if 10000 ≤ a0 then some (0, m) else some (1, m)))
theorem c_X14_isDay {w : rf_w} {m : rf_m} {a0 : Int32} {r : Int32 × rf_m} (hg : g_X14_isDay w m a0 = some r) : rf_Con j_X14_isDay 1 (rf_sh w) [.int a0] (rf_MM w m) (some (.int r.1)) (rf_MM w r.2) := by
  refine rf_con j_X14_isDay 1 ⟨by decide +kernel, rfl, Nat.le_of_ble_eq_true rfl⟩ (fun K C hE => ?_)
  unfold g_X14_isDay at hg
  show rf_V 1 (rf_sh w) K 0 0 0 ([(0, .int a0)], [], rf_MM w m)
  refine rf_seg C [(.iload 0, 1)] (pc' := 1) (S' := ([(0, .int a0)], [.int a0], rf_MM w m)) (by decide +kernel) rfl trivial ?_
  refine rf_if_lt C 14 15 (by decide +kernel) (fun hc => ?_) (fun hc => ?_)
  · replace hg := (if_pos hc).symm.trans hg
    refine rf_seg C [(.iconst 0, 1)] (pc' := 16) (S' := ([(0, .int a0)], [.int 0], rf_MM w m)) (by decide +kernel) rfl trivial ?_
    obtain rfl := Option.some.inj hg
    exact rf_zret C hE (by decide) (by decide +kernel)
  · replace hg := (if_neg hc).symm.trans hg
    refine rf_seg C [(.iload 0, 1), (.iconst 10000, 3)] (pc' := 8) (S' := ([(0, .int a0)], [.int 10000, .int a0], rf_MM w m)) (by decide +kernel) rfl trivial ?_
    refine rf_icmp_ge C 7 15 (by decide +kernel) (fun hc => ?_) (fun hc => ?_)
    · replace hg := (if_pos hc).symm.trans hg
      refine rf_seg C [(.iconst 0, 1)] (pc' := 16) (S' := ([(0, .int a0)], [.int 0], rf_MM w m)) (by decide +kernel) rfl trivial ?_
      obtain rfl := Option.some.inj hg
      exact rf_zret C hE (by decide) (by decide +kernel)
    · replace hg := (if_neg hc).symm.trans hg
      refine rf_seg C [(.iconst 1, 1)] (pc' := 12) (S' := ([(0, .int a0)], [.int 1], rf_MM w m)) (by decide +kernel) rfl trivial ?_
      refine rf_goto C 4 16 (by decide +kernel) ?_
      obtain rfl := Option.some.inj hg
      exact rf_zret C hE (by decide) (by decide +kernel)
-- X14_isHour
abbrev j_X14_isHour : rf_J := (14, yX14_isHour, cX14_isHour, 1, (some .boolean))
theorem mw_X14_isHour : rf_ms j_X14_isHour 1 := ⟨⟨rf_mem 19 (by decide +kernel), rf_mem 0 (by decide +kernel), rf_mem 19 (by decide +kernel)⟩, by decide +kernel, by decide⟩
def g_X14_isHour (w : rf_w) (m : rf_m) (a0 : Int32) : Option (Int32 × rf_m) := (if a0 < 0 then some (0, m) else (if 24 ≤ a0 then some (0, m) else some (1, m)))
theorem c_X14_isHour {w : rf_w} {m : rf_m} {a0 : Int32} {r : Int32 × rf_m} (hg : g_X14_isHour w m a0 = some r) : rf_Con j_X14_isHour 1 (rf_sh w) [.int a0] (rf_MM w m) (some (.int r.1)) (rf_MM w r.2) := by
  refine rf_con j_X14_isHour 1 ⟨by decide +kernel, rfl, Nat.le_of_ble_eq_true rfl⟩ (fun K C hE => ?_)
  unfold g_X14_isHour at hg
  show rf_V 1 (rf_sh w) K 0 0 0 ([(0, .int a0)], [], rf_MM w m)
  refine rf_seg C [(.iload 0, 1)] (pc' := 1) (S' := ([(0, .int a0)], [.int a0], rf_MM w m)) (by decide +kernel) rfl trivial ?_
  refine rf_if_lt C 13 14 (by decide +kernel) (fun hc => ?_) (fun hc => ?_)
  · replace hg := (if_pos hc).symm.trans hg
    refine rf_seg C [(.iconst 0, 1)] (pc' := 15) (S' := ([(0, .int a0)], [.int 0], rf_MM w m)) (by decide +kernel) rfl trivial ?_
    obtain rfl := Option.some.inj hg
    exact rf_zret C hE (by decide) (by decide +kernel)
  · replace hg := (if_neg hc).symm.trans hg
    refine rf_seg C [(.iload 0, 1), (.iconst 24, 2)] (pc' := 7) (S' := ([(0, .int a0)], [.int 24, .int a0], rf_MM w m)) (by decide +kernel) rfl trivial ?_
    refine rf_icmp_ge C 7 14 (by decide +kernel) (fun hc => ?_) (fun hc => ?_)
    · replace hg := (if_pos hc).symm.trans hg
      refine rf_seg C [(.iconst 0, 1)] (pc' := 15) (S' := ([(0, .int a0)], [.int 0], rf_MM w m)) (by decide +kernel) rfl trivial ?_
      obtain rfl := Option.some.inj hg
      exact rf_zret C hE (by decide) (by decide +kernel)
    · replace hg := (if_neg hc).symm.trans hg
      refine rf_seg C [(.iconst 1, 1)] (pc' := 11) (S' := ([(0, .int a0)], [.int 1], rf_MM w m)) (by decide +kernel) rfl trivial ?_
      refine rf_goto C 4 15 (by decide +kernel) ?_
      obtain rfl := Option.some.inj hg
      exact rf_zret C hE (by decide) (by decide +kernel)
-- X14_cell
abbrev j_X14_cell : rf_J := (14, yX14_cell, cX14_cell, 4, (some .boolean))
theorem mw_X14_cell : rf_mv j_X14_cell (rf_R 14) 3 := ⟨⟨rf_mem 14 (by decide +kernel), rf_mem 14 (by decide +kernel), rf_mem 0 (by decide +kernel), rf_mem 14 (by decide +kernel)⟩, by decide +kernel, by decide⟩
def g_X14_cell (w : rf_w) (m : rf_m) (a1 : Int32) (a2 : Int32) (a3 : Int32) : Option (Int32 × rf_m) := rf_b (g_X14_isCell w (rf_i m 206 0 0) a1) fun y0 m0 => (if y0 = 0 then rf_b (g_X14_denied w m0 1) fun y8 m8 => rf_g (rf_01 y8) (some (y8, m8)) else rf_b (g_X14_in w m0 a2 0 2000) fun y1 m1 => (if y1 = 0 then rf_b (g_X14_denied w m1 2) fun y2 m2 => rf_g (rf_01 y2) (some (y2, m2)) else rf_b (g_X14_in w m1 a3 0 90) fun y3 m3 => (if y3 = 0 then rf_b (g_X14_denied w m3 2) fun y7 m7 => rf_g (rf_01 y7) (some (y7, m7)) else rf_g (rf_in a1 1024) (rf_g (rf_in a1 1024) (rf_b (g_X14_granted w (rf_i (rf_i m3 207 (Int32.toNatClampNeg a1) a2) 208 (Int32.toNatClampNeg a1) a3)) fun y6 m6 => rf_g (rf_01 y6) (some (y6, m6)))))))
theorem c_X14_cell {w : rf_w} {m : rf_m} {a1 : Int32} {a2 : Int32} {a3 : Int32} {r : Int32 × rf_m} (hg : g_X14_cell w m a1 a2 a3 = some r) : rf_Con j_X14_cell 2 (rf_sh w) [.ref 206, .int a1, .int a2, .int a3] (rf_MM w m) (some (.int r.1)) (rf_MM w r.2) := by
  refine rf_con j_X14_cell 2 ⟨by decide +kernel, rfl, Nat.le_of_ble_eq_true rfl⟩ (fun K C hE => ?_)
  unfold g_X14_cell at hg
  show rf_V 4 (rf_sh w) K 0 0 0 ([(0, .ref 206), (1, .int a1), (2, .int a2), (3, .int a3)], [], rf_MM w m)
  refine rf_seg C [(.aload 0, 1), (.iconst 0, 1), (.multianewarray 14 0, 3), (.iload 1, 1)] (pc' := 6) (S' := ([(0, .ref 206), (1, .int a1), (2, .int a2), (3, .int a3)], [.int a1], rf_MM w (rf_i m 206 0 0))) (by decide +kernel) rfl trivial ?_
  obtain ⟨y0, m0, hc0, hg⟩ := rf_b_some hg
  refine rf_calls C rf_fit0 j_X14_isCell (As := [.int a1]) (rest := []) mw_X14_isCell (c_X14_isCell hc0) (by decide) lk_14_338 rfl rfl (Nat.le_of_ble_eq_true rfl) (by decide +kernel) ?_
  show rf_V 4 (rf_sh w) K 0 0 9 ([(0, .ref 206), (1, .int a1), (2, .int a2), (3, .int a3)], [.int y0], rf_MM w m0)
  refine rf_if_ne C 9 18 (by decide +kernel) (fun hc => ?_) (fun hc => ?_)
  · replace hg := (if_neg hc).symm.trans hg
    refine rf_seg C [(.iload 2, 1), (.iconst 0, 1), (.iconst 2000, 3)] (pc' := 23) (S' := ([(0, .ref 206), (1, .int a1), (2, .int a2), (3, .int a3)], [.int 2000, .int 0, .int a2], rf_MM w m0)) (by decide +kernel) rfl trivial ?_
    obtain ⟨y1, m1, hc1, hg⟩ := rf_b_some hg
    refine rf_calls C rf_fit0 j_X14_in (As := [.int a2, .int 0, .int 2000]) (rest := []) mw_X14_in (c_X14_in hc1) (by decide) lk_14_345 rfl rfl (Nat.le_of_ble_eq_true rfl) (by decide +kernel) ?_
    show rf_V 4 (rf_sh w) K 0 0 26 ([(0, .ref 206), (1, .int a1), (2, .int a2), (3, .int a3)], [.int y1], rf_MM w m1)
    refine rf_if_eq C 13 39 (by decide +kernel) (fun hc => ?_) (fun hc => ?_)
    · replace hg := (if_pos hc).symm.trans hg
      refine rf_seg C [(.aload 0, 1), (.iconst 2, 1)] (pc' := 41) (S' := ([(0, .ref 206), (1, .int a1), (2, .int a2), (3, .int a3)], [.int 2, .ref 206], rf_MM w m1)) (by decide +kernel) rfl trivial ?_
      obtain ⟨y2, m2, hc2, hg⟩ := rf_b_some hg
      refine rf_callv C rf_fit0 j_X14_denied (ci := 14) (As := [.int 2]) (rest := []) mw_X14_denied (c_X14_denied hc2) (by decide) rfl (by decide) lk_14_342 rfl rfl (Nat.le_of_ble_eq_true rfl) (by decide +kernel) ?_
      show rf_V 4 (rf_sh w) K 0 0 44 ([(0, .ref 206), (1, .int a1), (2, .int a2), (3, .int a3)], [.int y2], rf_MM w m2)
      obtain ⟨q01, hg⟩ := rf_g_some hg
      obtain rfl := Option.some.inj hg
      exact rf_zret C hE (rf_01_of q01) (by decide +kernel)
    · replace hg := (if_neg hc).symm.trans hg
      refine rf_seg C [(.iload 3, 1), (.iconst 0, 1), (.iconst 90, 2)] (pc' := 33) (S' := ([(0, .ref 206), (1, .int a1), (2, .int a2), (3, .int a3)], [.int 90, .int 0, .int a3], rf_MM w m1)) (by decide +kernel) rfl trivial ?_
      obtain ⟨y3, m3, hc3, hg⟩ := rf_b_some hg
      refine rf_calls C rf_fit0 j_X14_in (As := [.int a3, .int 0, .int 90]) (rest := []) mw_X14_in (c_X14_in hc3) (by decide) lk_14_345 rfl rfl (Nat.le_of_ble_eq_true rfl) (by decide +kernel) ?_
      show rf_V 4 (rf_sh w) K 0 0 36 ([(0, .ref 206), (1, .int a1), (2, .int a2), (3, .int a3)], [.int y3], rf_MM w m3)
      refine rf_if_ne C 9 45 (by decide +kernel) (fun hc => ?_) (fun hc => ?_)
      · replace hg := (if_neg hc).symm.trans hg
        obtain ⟨q4, hg⟩ := rf_g_some hg
        obtain ⟨q5, hg⟩ := rf_g_some hg
        refine rf_seg C [(.aload 0, 1), (.invokeinterface 14 7, 3), (.iload 1, 1), (.iload 2, 1), (.iastore, 1), (.aload 0, 1), (.invokeinterface 14 8, 3), (.iload 1, 1), (.iload 3, 1), (.iastore, 1), (.aload 0, 1)] (pc' := 60) (S' := ([(0, .ref 206), (1, .int a1), (2, .int a2), (3, .int a3)], [.ref 206], rf_MM w (rf_i (rf_i m3 207 (Int32.toNatClampNeg a1) a2) 208 (Int32.toNatClampNeg a1) a3))) (by decide +kernel) rfl (by exact ⟨(rf_in_of q4), (rf_in_of q5)⟩) ?_
        obtain ⟨y6, m6, hc6, hg⟩ := rf_b_some hg
        refine rf_callv C rf_fit0 j_X14_granted (ci := 14) (As := []) (rest := []) mw_X14_granted (c_X14_granted hc6) (by decide) rfl (by decide) lk_14_349 rfl rfl (Nat.le_of_ble_eq_true rfl) (by decide +kernel) ?_
        show rf_V 4 (rf_sh w) K 0 0 63 ([(0, .ref 206), (1, .int a1), (2, .int a2), (3, .int a3)], [.int y6], rf_MM w m6)
        obtain ⟨q01, hg⟩ := rf_g_some hg
        obtain rfl := Option.some.inj hg
        exact rf_zret C hE (rf_01_of q01) (by decide +kernel)
      · replace hg := (if_pos hc).symm.trans hg
        refine rf_seg C [(.aload 0, 1), (.iconst 2, 1)] (pc' := 41) (S' := ([(0, .ref 206), (1, .int a1), (2, .int a2), (3, .int a3)], [.int 2, .ref 206], rf_MM w m3)) (by decide +kernel) rfl trivial ?_
        obtain ⟨y7, m7, hc7, hg⟩ := rf_b_some hg
        refine rf_callv C rf_fit0 j_X14_denied (ci := 14) (As := [.int 2]) (rest := []) mw_X14_denied (c_X14_denied hc7) (by decide) rfl (by decide) lk_14_342 rfl rfl (Nat.le_of_ble_eq_true rfl) (by decide +kernel) ?_
        show rf_V 4 (rf_sh w) K 0 0 44 ([(0, .ref 206), (1, .int a1), (2, .int a2), (3, .int a3)], [.int y7], rf_MM w m7)
        obtain ⟨q01, hg⟩ := rf_g_some hg
        obtain rfl := Option.some.inj hg
        exact rf_zret C hE (rf_01_of q01) (by decide +kernel)
  · replace hg := (if_pos hc).symm.trans hg
    refine rf_seg C [(.aload 0, 1), (.iconst 1, 1)] (pc' := 14) (S' := ([(0, .ref 206), (1, .int a1), (2, .int a2), (3, .int a3)], [.int 1, .ref 206], rf_MM w m0)) (by decide +kernel) rfl trivial ?_
    obtain ⟨y8, m8, hc8, hg⟩ := rf_b_some hg
    refine rf_callv C rf_fit0 j_X14_denied (ci := 14) (As := [.int 1]) (rest := []) mw_X14_denied (c_X14_denied hc8) (by decide) rfl (by decide) lk_14_342 rfl rfl (Nat.le_of_ble_eq_true rfl) (by decide +kernel) ?_
    show rf_V 4 (rf_sh w) K 0 0 17 ([(0, .ref 206), (1, .int a1), (2, .int a2), (3, .int a3)], [.int y8], rf_MM w m8)
    obtain ⟨q01, hg⟩ := rf_g_some hg
    obtain rfl := Option.some.inj hg
    exact rf_zret C hE (rf_01_of q01) (by decide +kernel)
-- X14_mark
abbrev j_X14_mark : rf_J := (14, yX14_mark, cX14_mark, 3, (some .int))
theorem mw_X14_mark : rf_mv j_X14_mark (rf_R 14) 1 := ⟨⟨rf_mem 16 (by decide +kernel), rf_mem 16 (by decide +kernel), rf_mem 0 (by decide +kernel), rf_mem 16 (by decide +kernel)⟩, by decide +kernel, by decide⟩
def g_X14_mark_20_b (w : rf_w) (rec20 : Int32 → Int32 → rf_m → Option (Int32 × rf_m)) (a1 : Int32) (a2 : Int32) (m : rf_m) : Option (Int32 × rf_m) := (if (m.1 206 4) ≤ a2 then (if (m.1 206 4) = 30 then rf_b (g_X14_refused w m 3) fun y2 m2 => some (y2, m2) else rf_g (rf_in (m.1 206 4) 30) (rf_b (g_X14_done w (rf_i (rf_i m 209 (Int32.toNatClampNeg (m.1 206 4)) a1) 206 4 (((rf_i m 209 (Int32.toNatClampNeg (m.1 206 4)) a1).1 206 4) + 1)) (((rf_i (rf_i m 209 (Int32.toNatClampNeg (m.1 206 4)) a1) 206 4 (((rf_i m 209 (Int32.toNatClampNeg (m.1 206 4)) a1).1 206 4) + 1)).1 206 4) - 1)) fun y1 m1 => some (y1, m1))) else rf_g (rf_in a2 30) ((if (m.1 209 (Int32.toNatClampNeg a2)) = a1 then rf_b (g_X14_refused w m 5) fun y4 m4 => some (y4, m4) else rec20 a1 (a2 + 1) m)))
def g_X14_mark_20 (w : rf_w) : Nat → Int32 → Int32 → rf_m → Option (Int32 × rf_m)
  | 0, _, _, _ => none
  | n + 1, a1, a2, m => g_X14_mark_20_b w (g_X14_mark_20 w n) a1 a2 m
def g_X14_mark (w : rf_w) (m : rf_m) (a1 : Int32) : Option (Int32 × rf_m) := rf_b (g_X14_isCell w (rf_i m 206 0 0) a1) fun y0 m0 => (if y0 = 0 then rf_b (g_X14_refused w m0 1) fun y1 m1 => some (y1, m1) else g_X14_mark_20 w rf_fuel a1 0 m0)
theorem s_X14_mark_20_b {w : rf_w} {K : rf_K} {r : Int32 × rf_m} (C : rf_Ctx 14 cX14_mark 3 2 (rf_sh w) K) (hE : rf_End (some .int) K (rf_sh w) 0 0 (some (.int r.1)) (rf_MM w r.2)) {rec20 : Int32 → Int32 → rf_m → Option (Int32 × rf_m)} (hr20 : ∀ (a1 : Int32) (a2 : Int32) (m : rf_m), rec20 a1 a2 m = some r → rf_V 3 (rf_sh w) K 0 0 20 ([(0, .ref 206), (1, .int a1), (2, .int a2)], [], rf_MM w m)) (a1 : Int32) (a2 : Int32) (m : rf_m) (hg : g_X14_mark_20_b w rec20 a1 a2 m = some r) : rf_V 3 (rf_sh w) K 0 0 20 ([(0, .ref 206), (1, .int a1), (2, .int a2)], [], rf_MM w m) := by
  unfold g_X14_mark_20_b at hg
  refine rf_seg C [(.iload 2, 1), (.aload 0, 1), (.invokeinterface 14 4, 3)] (pc' := 25) (S' := ([(0, .ref 206), (1, .int a1), (2, .int a2)], [.int (m.1 206 4), .int a2], rf_MM w m)) (by decide +kernel) rfl trivial ?_
  refine rf_icmp_ge C 25 50 (by decide +kernel) (fun hc => ?_) (fun hc => ?_)
  · replace hg := (if_pos hc).symm.trans hg
    refine rf_seg C [(.aload 0, 1), (.invokeinterface 14 4, 3), (.iconst 30, 2)] (pc' := 56) (S' := ([(0, .ref 206), (1, .int a1), (2, .int a2)], [.int 30, .int (m.1 206 4)], rf_MM w m)) (by decide +kernel) rfl trivial ?_
    refine rf_icmp_ne C 9 65 (by decide +kernel) (fun hc => ?_) (fun hc => ?_)
    · replace hg := (if_neg hc).symm.trans hg
      obtain ⟨q0, hg⟩ := rf_g_some hg
      refine rf_seg C [(.aload 0, 1), (.invokeinterface 14 9, 3), (.aload 0, 1), (.invokeinterface 14 4, 3), (.iload 1, 1), (.iastore, 1), (.aload 0, 1), (.dup, 1), (.invokeinterface 14 4, 3), (.iconst 1, 1), (.iadd, 1), (.multianewarray 14 4, 3), (.aload 0, 1), (.aload 0, 1), (.invokeinterface 14 4, 3), (.iconst 1, 1), (.isub, 1)] (pc' := 92) (S' := ([(0, .ref 206), (1, .int a1), (2, .int a2)], [.int (((rf_i (rf_i m 209 (Int32.toNatClampNeg (m.1 206 4)) a1) 206 4 (((rf_i m 209 (Int32.toNatClampNeg (m.1 206 4)) a1).1 206 4) + 1)).1 206 4) - 1), .ref 206], rf_MM w (rf_i (rf_i m 209 (Int32.toNatClampNeg (m.1 206 4)) a1) 206 4 (((rf_i m 209 (Int32.toNatClampNeg (m.1 206 4)) a1).1 206 4) + 1)))) (by decide +kernel) rfl (rf_in_of q0) ?_
      obtain ⟨y1, m1, hc1, hg⟩ := rf_b_some hg
      refine rf_callv C rf_fit0 j_X14_done (ci := 14) (As := [.int (((rf_i (rf_i m 209 (Int32.toNatClampNeg (m.1 206 4)) a1) 206 4 (((rf_i m 209 (Int32.toNatClampNeg (m.1 206 4)) a1).1 206 4) + 1)).1 206 4) - 1)]) (rest := []) mw_X14_done (c_X14_done hc1) (by decide) rfl (by decide) lk_14_357 rfl rfl (Nat.le_of_ble_eq_true rfl) (by decide +kernel) ?_
      show rf_V 3 (rf_sh w) K 0 0 95 ([(0, .ref 206), (1, .int a1), (2, .int a2)], [.int y1], rf_MM w m1)
      obtain rfl := Option.some.inj hg
      exact rf_iret C hE (by decide +kernel)
    · replace hg := (if_pos hc).symm.trans hg
      refine rf_seg C [(.aload 0, 1), (.iconst 3, 1)] (pc' := 61) (S' := ([(0, .ref 206), (1, .int a1), (2, .int a2)], [.int 3, .ref 206], rf_MM w m)) (by decide +kernel) rfl trivial ?_
      obtain ⟨y2, m2, hc2, hg⟩ := rf_b_some hg
      refine rf_callv C rf_fit0 j_X14_refused (ci := 14) (As := [.int 3]) (rest := []) mw_X14_refused (c_X14_refused hc2) (by decide) rfl (by decide) lk_14_353 rfl rfl (Nat.le_of_ble_eq_true rfl) (by decide +kernel) ?_
      show rf_V 3 (rf_sh w) K 0 0 64 ([(0, .ref 206), (1, .int a1), (2, .int a2)], [.int y2], rf_MM w m2)
      obtain rfl := Option.some.inj hg
      exact rf_iret C hE (by decide +kernel)
  · replace hg := (if_neg hc).symm.trans hg
    obtain ⟨q3, hg⟩ := rf_g_some hg
    refine rf_seg C [(.aload 0, 1), (.invokeinterface 14 9, 3), (.iload 2, 1), (.iaload, 1), (.iload 1, 1)] (pc' := 35) (S' := ([(0, .ref 206), (1, .int a1), (2, .int a2)], [.int a1, .int (m.1 209 (Int32.toNatClampNeg a2))], rf_MM w m)) (by decide +kernel) rfl (rf_in_of q3) ?_
    refine rf_icmp_ne C 9 44 (by decide +kernel) (fun hc => ?_) (fun hc => ?_)
    · replace hg := (if_neg hc).symm.trans hg
      refine rf_seg C [(.iinc 2 1, 3)] (pc' := 47) (S' := ([(2, .int (a2 + 1)), (0, .ref 206), (1, .int a1)], [], rf_MM w m)) (by decide +kernel) rfl trivial ?_
      refine rf_goto C (-27) 20 (by decide +kernel) ?_
      refine rf_few [1, 2, 0] rfl ?_
      exact hr20 a1 (a2 + 1) m hg
    · replace hg := (if_pos hc).symm.trans hg
      refine rf_seg C [(.aload 0, 1), (.iconst 5, 1)] (pc' := 40) (S' := ([(0, .ref 206), (1, .int a1), (2, .int a2)], [.int 5, .ref 206], rf_MM w m)) (by decide +kernel) rfl trivial ?_
      obtain ⟨y4, m4, hc4, hg⟩ := rf_b_some hg
      refine rf_callv C rf_fit0 j_X14_refused (ci := 14) (As := [.int 5]) (rest := []) mw_X14_refused (c_X14_refused hc4) (by decide) rfl (by decide) lk_14_353 rfl rfl (Nat.le_of_ble_eq_true rfl) (by decide +kernel) ?_
      show rf_V 3 (rf_sh w) K 0 0 43 ([(0, .ref 206), (1, .int a1), (2, .int a2)], [.int y4], rf_MM w m4)
      obtain rfl := Option.some.inj hg
      exact rf_iret C hE (by decide +kernel)
theorem s_X14_mark_20 {w : rf_w} {K : rf_K} {r : Int32 × rf_m} (C : rf_Ctx 14 cX14_mark 3 2 (rf_sh w) K) (hE : rf_End (some .int) K (rf_sh w) 0 0 (some (.int r.1)) (rf_MM w r.2)) (n : Nat) : ∀ (a1 : Int32) (a2 : Int32) (m : rf_m), g_X14_mark_20 w n a1 a2 m = some r → rf_V 3 (rf_sh w) K 0 0 20 ([(0, .ref 206), (1, .int a1), (2, .int a2)], [], rf_MM w m) := by
  induction n with
  | zero => intro a1 a2 m hg; cases hg
  | succ n ih => intro a1 a2 m hg; exact s_X14_mark_20_b C hE ih a1 a2 m hg
theorem c_X14_mark {w : rf_w} {m : rf_m} {a1 : Int32} {r : Int32 × rf_m} (hg : g_X14_mark w m a1 = some r) : rf_Con j_X14_mark 2 (rf_sh w) [.ref 206, .int a1] (rf_MM w m) (some (.int r.1)) (rf_MM w r.2) := by
  refine rf_con j_X14_mark 2 ⟨by decide +kernel, rfl, Nat.le_of_ble_eq_true rfl⟩ (fun K C hE => ?_)
  unfold g_X14_mark at hg
  show rf_V 3 (rf_sh w) K 0 0 0 ([(0, .ref 206), (1, .int a1)], [], rf_MM w m)
  refine rf_seg C [(.aload 0, 1), (.iconst 0, 1), (.multianewarray 14 0, 3), (.iload 1, 1)] (pc' := 6) (S' := ([(0, .ref 206), (1, .int a1)], [.int a1], rf_MM w (rf_i m 206 0 0))) (by decide +kernel) rfl trivial ?_
  obtain ⟨y0, m0, hc0, hg⟩ := rf_b_some hg
  refine rf_calls C rf_fit0 j_X14_isCell (As := [.int a1]) (rest := []) mw_X14_isCell (c_X14_isCell hc0) (by decide) lk_14_338 rfl rfl (Nat.le_of_ble_eq_true rfl) (by decide +kernel) ?_
  show rf_V 3 (rf_sh w) K 0 0 9 ([(0, .ref 206), (1, .int a1)], [.int y0], rf_MM w m0)
  refine rf_if_ne C 9 18 (by decide +kernel) (fun hc => ?_) (fun hc => ?_)
  · replace hg := (if_neg hc).symm.trans hg
    refine rf_seg C [(.iconst 0, 1), (.istore 2, 1)] (pc' := 20) (S' := ([(2, .int 0), (0, .ref 206), (1, .int a1)], [], rf_MM w m0)) (by decide +kernel) rfl trivial ?_
    refine rf_few [1, 2, 0] rfl ?_
    exact s_X14_mark_20 C hE rf_fuel a1 0 m0 hg
  · replace hg := (if_pos hc).symm.trans hg
    refine rf_seg C [(.aload 0, 1), (.iconst 1, 1)] (pc' := 14) (S' := ([(0, .ref 206), (1, .int a1)], [.int 1, .ref 206], rf_MM w m0)) (by decide +kernel) rfl trivial ?_
    obtain ⟨y1, m1, hc1, hg⟩ := rf_b_some hg
    refine rf_callv C rf_fit0 j_X14_refused (ci := 14) (As := [.int 1]) (rest := []) mw_X14_refused (c_X14_refused hc1) (by decide) rfl (by decide) lk_14_353 rfl rfl (Nat.le_of_ble_eq_true rfl) (by decide +kernel) ?_
    show rf_V 3 (rf_sh w) K 0 0 17 ([(0, .ref 206), (1, .int a1)], [.int y1], rf_MM w m1)
    obtain rfl := Option.some.inj hg
    exact rf_iret C hE (by decide +kernel)
-- X14_tower
abbrev j_X14_tower : rf_J := (14, yX14_tower, cX14_tower, 4, (some .boolean))
theorem mw_X14_tower : rf_mv j_X14_tower (rf_R 14) 2 := ⟨⟨rf_mem 17 (by decide +kernel), rf_mem 17 (by decide +kernel), rf_mem 0 (by decide +kernel), rf_mem 17 (by decide +kernel)⟩, by decide +kernel, by decide⟩
def g_X14_tower_40_b (w : rf_w) (rec40 : Int32 → Int32 → Int32 → rf_m → Option (Int32 × rf_m)) (a1 : Int32) (a2 : Int32) (a3 : Int32) (m : rf_m) : Option (Int32 × rf_m) := (if 10000 ≤ a3 then rf_b (g_X14_granted w m) fun y0 m0 => rf_g (rf_01 y0) (some (y0, m0)) else rf_g (rf_in ((10000 * a1) + a3) 300000) (rec40 a1 a2 (a3 + 1) (rf_i m 210 (Int32.toNatClampNeg ((10000 * a1) + a3)) a2)))
def g_X14_tower_40 (w : rf_w) : Nat → Int32 → Int32 → Int32 → rf_m → Option (Int32 × rf_m)
  | 0, _, _, _, _ => none
  | n + 1, a1, a2, a3, m => g_X14_tower_40_b w (g_X14_tower_40 w n) a1 a2 a3 m
def g_X14_tower (w : rf_w) (m : rf_m) (a1 : Int32) (a2 : Int32) : Option (Int32 × rf_m) := rf_b (g_X14_isMark w (rf_i m 206 0 0) a1) fun y0 m0 => (if y0 = 0 then rf_b (g_X14_denied w m0 1) fun y3 m3 => rf_g (rf_01 y3) (some (y3, m3)) else rf_b (g_X14_in w m0 a2 0 99) fun y1 m1 => (if y1 = 0 then rf_b (g_X14_denied w m1 2) fun y2 m2 => rf_g (rf_01 y2) (some (y2, m2)) else g_X14_tower_40 w rf_fuel a1 a2 (m1.1 206 5) m1))
theorem s_X14_tower_40_b {w : rf_w} {K : rf_K} {r : Int32 × rf_m} (C : rf_Ctx 14 cX14_tower 4 2 (rf_sh w) K) (hE : rf_End (some .boolean) K (rf_sh w) 0 0 (some (.int r.1)) (rf_MM w r.2)) {rec40 : Int32 → Int32 → Int32 → rf_m → Option (Int32 × rf_m)} (hr40 : ∀ (a1 : Int32) (a2 : Int32) (a3 : Int32) (m : rf_m), rec40 a1 a2 a3 m = some r → rf_V 4 (rf_sh w) K 0 0 40 ([(0, .ref 206), (1, .int a1), (2, .int a2), (3, .int a3)], [], rf_MM w m)) (a1 : Int32) (a2 : Int32) (a3 : Int32) (m : rf_m) (hg : g_X14_tower_40_b w rec40 a1 a2 a3 m = some r) : rf_V 4 (rf_sh w) K 0 0 40 ([(0, .ref 206), (1, .int a1), (2, .int a2), (3, .int a3)], [], rf_MM w m) := by
  unfold g_X14_tower_40_b at hg
  refine rf_seg C [(.iload 3, 1), (.iconst 10000, 3)] (pc' := 44) (S' := ([(0, .ref 206), (1, .int a1), (2, .int a2), (3, .int a3)], [.int 10000, .int a3], rf_MM w m)) (by decide +kernel) rfl trivial ?_
  refine rf_icmp_ge C 22 66 (by decide +kernel) (fun hc => ?_) (fun hc => ?_)
  · replace hg := (if_pos hc).symm.trans hg
    refine rf_seg C [(.aload 0, 1)] (pc' := 67) (S' := ([(0, .ref 206), (1, .int a1), (2, .int a2), (3, .int a3)], [.ref 206], rf_MM w m)) (by decide +kernel) rfl trivial ?_
    obtain ⟨y0, m0, hc0, hg⟩ := rf_b_some hg
    refine rf_callv C rf_fit0 j_X14_granted (ci := 14) (As := []) (rest := []) mw_X14_granted (c_X14_granted hc0) (by decide) rfl (by decide) lk_14_349 rfl rfl (Nat.le_of_ble_eq_true rfl) (by decide +kernel) ?_
    show rf_V 4 (rf_sh w) K 0 0 70 ([(0, .ref 206), (1, .int a1), (2, .int a2), (3, .int a3)], [.int y0], rf_MM w m0)
    obtain ⟨q01, hg⟩ := rf_g_some hg
    obtain rfl := Option.some.inj hg
    exact rf_zret C hE (rf_01_of q01) (by decide +kernel)
  · replace hg := (if_neg hc).symm.trans hg
    obtain ⟨q1, hg⟩ := rf_g_some hg
    refine rf_seg C [(.aload 0, 1), (.invokeinterface 14 10, 3), (.iconst 10000, 3), (.iload 1, 1), (.imul, 1), (.iload 3, 1), (.iadd, 1), (.iload 2, 1), (.iastore, 1), (.iinc 3 1, 3)] (pc' := 63) (S' := ([(3, .int (a3 + 1)), (0, .ref 206), (1, .int a1), (2, .int a2)], [], rf_MM w (rf_i m 210 (Int32.toNatClampNeg ((10000 * a1) + a3)) a2))) (by decide +kernel) rfl (rf_in_of q1) ?_
    refine rf_goto C (-23) 40 (by decide +kernel) ?_
    refine rf_few [1, 2, 3, 0] rfl ?_
    exact hr40 a1 a2 (a3 + 1) (rf_i m 210 (Int32.toNatClampNeg ((10000 * a1) + a3)) a2) hg
theorem s_X14_tower_40 {w : rf_w} {K : rf_K} {r : Int32 × rf_m} (C : rf_Ctx 14 cX14_tower 4 2 (rf_sh w) K) (hE : rf_End (some .boolean) K (rf_sh w) 0 0 (some (.int r.1)) (rf_MM w r.2)) (n : Nat) : ∀ (a1 : Int32) (a2 : Int32) (a3 : Int32) (m : rf_m), g_X14_tower_40 w n a1 a2 a3 m = some r → rf_V 4 (rf_sh w) K 0 0 40 ([(0, .ref 206), (1, .int a1), (2, .int a2), (3, .int a3)], [], rf_MM w m) := by
  induction n with
  | zero => intro a1 a2 a3 m hg; cases hg
  | succ n ih => intro a1 a2 a3 m hg; exact s_X14_tower_40_b C hE ih a1 a2 a3 m hg
theorem c_X14_tower {w : rf_w} {m : rf_m} {a1 : Int32} {a2 : Int32} {r : Int32 × rf_m} (hg : g_X14_tower w m a1 a2 = some r) : rf_Con j_X14_tower 2 (rf_sh w) [.ref 206, .int a1, .int a2] (rf_MM w m) (some (.int r.1)) (rf_MM w r.2) := by
  refine rf_con j_X14_tower 2 ⟨by decide +kernel, rfl, Nat.le_of_ble_eq_true rfl⟩ (fun K C hE => ?_)
  unfold g_X14_tower at hg
  show rf_V 4 (rf_sh w) K 0 0 0 ([(0, .ref 206), (1, .int a1), (2, .int a2)], [], rf_MM w m)
  refine rf_seg C [(.aload 0, 1), (.iconst 0, 1), (.multianewarray 14 0, 3), (.aload 0, 1), (.iload 1, 1)] (pc' := 7) (S' := ([(0, .ref 206), (1, .int a1), (2, .int a2)], [.int a1, .ref 206], rf_MM w (rf_i m 206 0 0))) (by decide +kernel) rfl trivial ?_
  obtain ⟨y0, m0, hc0, hg⟩ := rf_b_some hg
  refine rf_callv C rf_fit0 j_X14_isMark (ci := 14) (As := [.int a1]) (rest := []) mw_X14_isMark (c_X14_isMark hc0) (by decide) rfl (by decide) lk_14_360 rfl rfl (Nat.le_of_ble_eq_true rfl) (by decide +kernel) ?_
  show rf_V 4 (rf_sh w) K 0 0 10 ([(0, .ref 206), (1, .int a1), (2, .int a2)], [.int y0], rf_MM w m0)
  refine rf_if_ne C 9 19 (by decide +kernel) (fun hc => ?_) (fun hc => ?_)
  · replace hg := (if_neg hc).symm.trans hg
    refine rf_seg C [(.iload 2, 1), (.iconst 0, 1), (.iconst 99, 2)] (pc' := 23) (S' := ([(0, .ref 206), (1, .int a1), (2, .int a2)], [.int 99, .int 0, .int a2], rf_MM w m0)) (by decide +kernel) rfl trivial ?_
    obtain ⟨y1, m1, hc1, hg⟩ := rf_b_some hg
    refine rf_calls C rf_fit0 j_X14_in (As := [.int a2, .int 0, .int 99]) (rest := []) mw_X14_in (c_X14_in hc1) (by decide) lk_14_345 rfl rfl (Nat.le_of_ble_eq_true rfl) (by decide +kernel) ?_
    show rf_V 4 (rf_sh w) K 0 0 26 ([(0, .ref 206), (1, .int a1), (2, .int a2)], [.int y1], rf_MM w m1)
    refine rf_if_ne C 9 35 (by decide +kernel) (fun hc => ?_) (fun hc => ?_)
    · replace hg := (if_neg hc).symm.trans hg
      refine rf_seg C [(.aload 0, 1), (.invokeinterface 14 5, 3), (.istore 3, 1)] (pc' := 40) (S' := ([(3, .int (m1.1 206 5)), (0, .ref 206), (1, .int a1), (2, .int a2)], [], rf_MM w m1)) (by decide +kernel) rfl trivial ?_
      refine rf_few [1, 2, 3, 0] rfl ?_
      exact s_X14_tower_40 C hE rf_fuel a1 a2 (m1.1 206 5) m1 hg
    · replace hg := (if_pos hc).symm.trans hg
      refine rf_seg C [(.aload 0, 1), (.iconst 2, 1)] (pc' := 31) (S' := ([(0, .ref 206), (1, .int a1), (2, .int a2)], [.int 2, .ref 206], rf_MM w m1)) (by decide +kernel) rfl trivial ?_
      obtain ⟨y2, m2, hc2, hg⟩ := rf_b_some hg
      refine rf_callv C rf_fit0 j_X14_denied (ci := 14) (As := [.int 2]) (rest := []) mw_X14_denied (c_X14_denied hc2) (by decide) rfl (by decide) lk_14_342 rfl rfl (Nat.le_of_ble_eq_true rfl) (by decide +kernel) ?_
      show rf_V 4 (rf_sh w) K 0 0 34 ([(0, .ref 206), (1, .int a1), (2, .int a2)], [.int y2], rf_MM w m2)
      obtain ⟨q01, hg⟩ := rf_g_some hg
      obtain rfl := Option.some.inj hg
      exact rf_zret C hE (rf_01_of q01) (by decide +kernel)
  · replace hg := (if_pos hc).symm.trans hg
    refine rf_seg C [(.aload 0, 1), (.iconst 1, 1)] (pc' := 15) (S' := ([(0, .ref 206), (1, .int a1), (2, .int a2)], [.int 1, .ref 206], rf_MM w m0)) (by decide +kernel) rfl trivial ?_
    obtain ⟨y3, m3, hc3, hg⟩ := rf_b_some hg
    refine rf_callv C rf_fit0 j_X14_denied (ci := 14) (As := [.int 1]) (rest := []) mw_X14_denied (c_X14_denied hc3) (by decide) rfl (by decide) lk_14_342 rfl rfl (Nat.le_of_ble_eq_true rfl) (by decide +kernel) ?_
    show rf_V 4 (rf_sh w) K 0 0 18 ([(0, .ref 206), (1, .int a1), (2, .int a2)], [.int y3], rf_MM w m3)
    obtain ⟨q01, hg⟩ := rf_g_some hg
    obtain rfl := Option.some.inj hg
    exact rf_zret C hE (rf_01_of q01) (by decide +kernel)
-- X14_lamp
abbrev j_X14_lamp : rf_J := (14, yX14_lamp, cX14_lamp, 3, (some .boolean))
theorem mw_X14_lamp : rf_mv j_X14_lamp (rf_R 14) 2 := ⟨⟨rf_mem 17 (by decide +kernel), rf_mem 17 (by decide +kernel), rf_mem 0 (by decide +kernel), rf_mem 18 (by decide +kernel)⟩, by decide +kernel, by decide⟩
def g_X14_lamp (w : rf_w) (m : rf_m) (a1 : Int32) (a2 : Int32) : Option (Int32 × rf_m) := rf_b (g_X14_isMark w (rf_i m 206 0 0) a1) fun y0 m0 => (if y0 = 0 then rf_b (g_X14_denied w m0 1) fun y3 m3 => rf_g (rf_01 y3) (some (y3, m3)) else rf_g (rf_in a1 30) (rf_b (g_X14_granted w (rf_i m0 214 (Int32.toNatClampNeg a1) (vp_nar .boolean a2))) fun y2 m2 => rf_g (rf_01 y2) (some (y2, m2))))
theorem c_X14_lamp {w : rf_w} {m : rf_m} {a1 : Int32} {a2 : Int32} {r : Int32 × rf_m} (hg : g_X14_lamp w m a1 a2 = some r) : rf_Con j_X14_lamp 2 (rf_sh w) [.ref 206, .int a1, .int a2] (rf_MM w m) (some (.int r.1)) (rf_MM w r.2) := by
  refine rf_con j_X14_lamp 2 ⟨by decide +kernel, rfl, Nat.le_of_ble_eq_true rfl⟩ (fun K C hE => ?_)
  unfold g_X14_lamp at hg
  show rf_V 3 (rf_sh w) K 0 0 0 ([(0, .ref 206), (1, .int a1), (2, .int a2)], [], rf_MM w m)
  refine rf_seg C [(.aload 0, 1), (.iconst 0, 1), (.multianewarray 14 0, 3), (.aload 0, 1), (.iload 1, 1)] (pc' := 7) (S' := ([(0, .ref 206), (1, .int a1), (2, .int a2)], [.int a1, .ref 206], rf_MM w (rf_i m 206 0 0))) (by decide +kernel) rfl trivial ?_
  obtain ⟨y0, m0, hc0, hg⟩ := rf_b_some hg
  refine rf_callv C rf_fit0 j_X14_isMark (ci := 14) (As := [.int a1]) (rest := []) mw_X14_isMark (c_X14_isMark hc0) (by decide) rfl (by decide) lk_14_360 rfl rfl (Nat.le_of_ble_eq_true rfl) (by decide +kernel) ?_
  show rf_V 3 (rf_sh w) K 0 0 10 ([(0, .ref 206), (1, .int a1), (2, .int a2)], [.int y0], rf_MM w m0)
  refine rf_if_ne C 9 19 (by decide +kernel) (fun hc => ?_) (fun hc => ?_)
  · replace hg := (if_neg hc).symm.trans hg
    obtain ⟨q1, hg⟩ := rf_g_some hg
    refine rf_seg C [(.aload 0, 1), (.invokeinterface 14 14, 3), (.iload 1, 1), (.iload 2, 1), (.bastore, 1), (.aload 0, 1)] (pc' := 27) (S' := ([(0, .ref 206), (1, .int a1), (2, .int a2)], [.ref 206], rf_MM w (rf_i m0 214 (Int32.toNatClampNeg a1) (vp_nar .boolean a2)))) (by decide +kernel) rfl (rf_in_of q1) ?_
    obtain ⟨y2, m2, hc2, hg⟩ := rf_b_some hg
    refine rf_callv C rf_fit0 j_X14_granted (ci := 14) (As := []) (rest := []) mw_X14_granted (c_X14_granted hc2) (by decide) rfl (by decide) lk_14_349 rfl rfl (Nat.le_of_ble_eq_true rfl) (by decide +kernel) ?_
    show rf_V 3 (rf_sh w) K 0 0 30 ([(0, .ref 206), (1, .int a1), (2, .int a2)], [.int y2], rf_MM w m2)
    obtain ⟨q01, hg⟩ := rf_g_some hg
    obtain rfl := Option.some.inj hg
    exact rf_zret C hE (rf_01_of q01) (by decide +kernel)
  · replace hg := (if_pos hc).symm.trans hg
    refine rf_seg C [(.aload 0, 1), (.iconst 1, 1)] (pc' := 15) (S' := ([(0, .ref 206), (1, .int a1), (2, .int a2)], [.int 1, .ref 206], rf_MM w m0)) (by decide +kernel) rfl trivial ?_
    obtain ⟨y3, m3, hc3, hg⟩ := rf_b_some hg
    refine rf_callv C rf_fit0 j_X14_denied (ci := 14) (As := [.int 1]) (rest := []) mw_X14_denied (c_X14_denied hc3) (by decide) rfl (by decide) lk_14_342 rfl rfl (Nat.le_of_ble_eq_true rfl) (by decide +kernel) ?_
    show rf_V 3 (rf_sh w) K 0 0 18 ([(0, .ref 206), (1, .int a1), (2, .int a2)], [.int y3], rf_MM w m3)
    obtain ⟨q01, hg⟩ := rf_g_some hg
    obtain rfl := Option.some.inj hg
    exact rf_zret C hE (rf_01_of q01) (by decide +kernel)
-- X14_haze
abbrev j_X14_haze : rf_J := (14, yX14_haze, cX14_haze, 5, (some .boolean))
theorem mw_X14_haze : rf_mv j_X14_haze (rf_R 14) 3 := ⟨⟨rf_mem 18 (by decide +kernel), rf_mem 18 (by decide +kernel), rf_mem 0 (by decide +kernel), rf_mem 18 (by decide +kernel)⟩, by decide +kernel, by decide⟩
def g_X14_haze_75 (w : rf_w) (a1 : Int32) (a2 : Int32) (a3 : Int32) (a4 : Int32) (m : rf_m) : Option (Int32 × rf_m) := (if a4 = 200 then rf_b (g_X14_denied w m 3) fun y5 m5 => rf_g (rf_01 y5) (some (y5, m5)) else rf_b (g_max w m (m.1 206 6) (a4 + 1)) fun y0 m0 => rf_g (rf_in a4 200) (rf_g (rf_in a4 200) (rf_g (rf_in a4 200) (rf_b (g_X14_granted w (rf_i (rf_i (rf_i (rf_i m0 206 6 y0) 211 (Int32.toNatClampNeg a4) a1) 212 (Int32.toNatClampNeg a4) a2) 213 (Int32.toNatClampNeg a4) a3)) fun y4 m4 => rf_g (rf_01 y4) (some (y4, m4))))))
def g_X14_haze_69 (w : rf_w) (rec38 : Int32 → Int32 → Int32 → Int32 → rf_m → Option (Int32 × rf_m)) (a1 : Int32) (a2 : Int32) (a3 : Int32) (a4 : Int32) (m : rf_m) : Option (Int32 × rf_m) := rec38 a1 a2 a3 (a4 + 1) m
def g_X14_haze_38_b (w : rf_w) (rec38 : Int32 → Int32 → Int32 → Int32 → rf_m → Option (Int32 × rf_m)) (a1 : Int32) (a2 : Int32) (a3 : Int32) (a4 : Int32) (m : rf_m) : Option (Int32 × rf_m) := (if (m.1 206 6) ≤ a4 then g_X14_haze_75 w a1 a2 a3 a4 m else rf_g (rf_in a4 200) ((if (m.1 211 (Int32.toNatClampNeg a4)) = a1 then rf_g (rf_in a4 200) ((if (m.1 212 (Int32.toNatClampNeg a4)) = a2 then g_X14_haze_75 w a1 a2 a3 a4 m else g_X14_haze_69 w rec38 a1 a2 a3 a4 m)) else g_X14_haze_69 w rec38 a1 a2 a3 a4 m)))
def g_X14_haze_38 (w : rf_w) : Nat → Int32 → Int32 → Int32 → Int32 → rf_m → Option (Int32 × rf_m)
  | 0, _, _, _, _, _ => none
  | n + 1, a1, a2, a3, a4, m => g_X14_haze_38_b w (g_X14_haze_38 w n) a1 a2 a3 a4 m
def g_X14_haze (w : rf_w) (m : rf_m) (a1 : Int32) (a2 : Int32) (a3 : Int32) : Option (Int32 × rf_m) := rf_b (g_X14_isDay w (rf_i m 206 0 0) a1) fun y0 m0 => (if y0 = 0 then rf_b (g_X14_denied w m0 2) fun y1 m1 => rf_g (rf_01 y1) (some (y1, m1)) else rf_b (g_X14_isHour w m0 a2) fun y2 m2 => (if y2 = 0 then rf_b (g_X14_denied w m2 2) fun y3 m3 => rf_g (rf_01 y3) (some (y3, m3)) else rf_b (g_X14_in w m2 a3 0 32) fun y4 m4 => (if y4 = 0 then rf_b (g_X14_denied w m4 2) fun y5 m5 => rf_g (rf_01 y5) (some (y5, m5)) else g_X14_haze_38 w rf_fuel a1 a2 a3 0 m4)))
theorem s_X14_haze_75 {w : rf_w} {K : rf_K} {r : Int32 × rf_m} (C : rf_Ctx 14 cX14_haze 5 2 (rf_sh w) K) (hE : rf_End (some .boolean) K (rf_sh w) 0 0 (some (.int r.1)) (rf_MM w r.2)) (a1 : Int32) (a2 : Int32) (a3 : Int32) (a4 : Int32) (m : rf_m) (hg : g_X14_haze_75 w a1 a2 a3 a4 m = some r) : rf_V 5 (rf_sh w) K 0 0 75 ([(0, .ref 206), (1, .int a1), (2, .int a2), (3, .int a3), (4, .int a4)], [], rf_MM w m) := by
  unfold g_X14_haze_75 at hg
  refine rf_seg C [(.iload 4, 2), (.iconst 200, 3)] (pc' := 80) (S' := ([(0, .ref 206), (1, .int a1), (2, .int a2), (3, .int a3), (4, .int a4)], [.int 200, .int a4], rf_MM w m)) (by decide +kernel) rfl trivial ?_
  refine rf_icmp_ne C 9 89 (by decide +kernel) (fun hc => ?_) (fun hc => ?_)
  · replace hg := (if_neg hc).symm.trans hg
    refine rf_seg C [(.aload 0, 1), (.aload 0, 1), (.invokeinterface 14 6, 3), (.iload 4, 2), (.iconst 1, 1), (.iadd, 1)] (pc' := 98) (S' := ([(0, .ref 206), (1, .int a1), (2, .int a2), (3, .int a3), (4, .int a4)], [.int (a4 + 1), .int (m.1 206 6), .ref 206], rf_MM w m)) (by decide +kernel) rfl trivial ?_
    obtain ⟨y0, m0, hc0, hg⟩ := rf_b_some hg
    refine rf_calls C rf_fit0 j_max (As := [.int (m.1 206 6), .int (a4 + 1)]) (rest := [.ref 206]) mw_max (c_max hc0) (by decide) lk_14_375 rfl rfl (Nat.le_of_ble_eq_true rfl) (by decide +kernel) ?_
    show rf_V 5 (rf_sh w) K 0 0 101 ([(0, .ref 206), (1, .int a1), (2, .int a2), (3, .int a3), (4, .int a4)], [.int y0, .ref 206], rf_MM w m0)
    obtain ⟨q1, hg⟩ := rf_g_some hg
    obtain ⟨q2, hg⟩ := rf_g_some hg
    obtain ⟨q3, hg⟩ := rf_g_some hg
    refine rf_seg C [(.multianewarray 14 6, 3), (.aload 0, 1), (.invokeinterface 14 11, 3), (.iload 4, 2), (.iload 1, 1), (.iastore, 1), (.aload 0, 1), (.invokeinterface 14 12, 3), (.iload 4, 2), (.iload 2, 1), (.iastore, 1), (.aload 0, 1), (.invokeinterface 14 13, 3), (.iload 4, 2), (.iload 3, 1), (.iastore, 1), (.aload 0, 1)] (pc' := 129) (S' := ([(0, .ref 206), (1, .int a1), (2, .int a2), (3, .int a3), (4, .int a4)], [.ref 206], rf_MM w (rf_i (rf_i (rf_i (rf_i m0 206 6 y0) 211 (Int32.toNatClampNeg a4) a1) 212 (Int32.toNatClampNeg a4) a2) 213 (Int32.toNatClampNeg a4) a3))) (by decide +kernel) rfl (by exact ⟨(rf_in_of q1), (rf_in_of q2), (rf_in_of q3)⟩) ?_
    obtain ⟨y4, m4, hc4, hg⟩ := rf_b_some hg
    refine rf_callv C rf_fit0 j_X14_granted (ci := 14) (As := []) (rest := []) mw_X14_granted (c_X14_granted hc4) (by decide) rfl (by decide) lk_14_349 rfl rfl (Nat.le_of_ble_eq_true rfl) (by decide +kernel) ?_
    show rf_V 5 (rf_sh w) K 0 0 132 ([(0, .ref 206), (1, .int a1), (2, .int a2), (3, .int a3), (4, .int a4)], [.int y4], rf_MM w m4)
    obtain ⟨q01, hg⟩ := rf_g_some hg
    obtain rfl := Option.some.inj hg
    exact rf_zret C hE (rf_01_of q01) (by decide +kernel)
  · replace hg := (if_pos hc).symm.trans hg
    refine rf_seg C [(.aload 0, 1), (.iconst 3, 1)] (pc' := 85) (S' := ([(0, .ref 206), (1, .int a1), (2, .int a2), (3, .int a3), (4, .int a4)], [.int 3, .ref 206], rf_MM w m)) (by decide +kernel) rfl trivial ?_
    obtain ⟨y5, m5, hc5, hg⟩ := rf_b_some hg
    refine rf_callv C rf_fit0 j_X14_denied (ci := 14) (As := [.int 3]) (rest := []) mw_X14_denied (c_X14_denied hc5) (by decide) rfl (by decide) lk_14_342 rfl rfl (Nat.le_of_ble_eq_true rfl) (by decide +kernel) ?_
    show rf_V 5 (rf_sh w) K 0 0 88 ([(0, .ref 206), (1, .int a1), (2, .int a2), (3, .int a3), (4, .int a4)], [.int y5], rf_MM w m5)
    obtain ⟨q01, hg⟩ := rf_g_some hg
    obtain rfl := Option.some.inj hg
    exact rf_zret C hE (rf_01_of q01) (by decide +kernel)
theorem s_X14_haze_69 {w : rf_w} {K : rf_K} {r : Int32 × rf_m} (C : rf_Ctx 14 cX14_haze 5 2 (rf_sh w) K) (hE : rf_End (some .boolean) K (rf_sh w) 0 0 (some (.int r.1)) (rf_MM w r.2)) {rec38 : Int32 → Int32 → Int32 → Int32 → rf_m → Option (Int32 × rf_m)} (hr38 : ∀ (a1 : Int32) (a2 : Int32) (a3 : Int32) (a4 : Int32) (m : rf_m), rec38 a1 a2 a3 a4 m = some r → rf_V 5 (rf_sh w) K 0 0 38 ([(0, .ref 206), (1, .int a1), (2, .int a2), (3, .int a3), (4, .int a4)], [], rf_MM w m)) (a1 : Int32) (a2 : Int32) (a3 : Int32) (a4 : Int32) (m : rf_m) (hg : g_X14_haze_69 w rec38 a1 a2 a3 a4 m = some r) : rf_V 5 (rf_sh w) K 0 0 69 ([(0, .ref 206), (1, .int a1), (2, .int a2), (3, .int a3), (4, .int a4)], [], rf_MM w m) := by
  unfold g_X14_haze_69 at hg
  refine rf_seg C [(.iinc 4 1, 3)] (pc' := 72) (S' := ([(4, .int (a4 + 1)), (0, .ref 206), (1, .int a1), (2, .int a2), (3, .int a3)], [], rf_MM w m)) (by decide +kernel) rfl trivial ?_
  refine rf_goto C (-34) 38 (by decide +kernel) ?_
  refine rf_few [1, 2, 3, 4, 0] rfl ?_
  exact hr38 a1 a2 a3 (a4 + 1) m hg
theorem s_X14_haze_38_b {w : rf_w} {K : rf_K} {r : Int32 × rf_m} (C : rf_Ctx 14 cX14_haze 5 2 (rf_sh w) K) (hE : rf_End (some .boolean) K (rf_sh w) 0 0 (some (.int r.1)) (rf_MM w r.2)) {rec38 : Int32 → Int32 → Int32 → Int32 → rf_m → Option (Int32 × rf_m)} (hr38 : ∀ (a1 : Int32) (a2 : Int32) (a3 : Int32) (a4 : Int32) (m : rf_m), rec38 a1 a2 a3 a4 m = some r → rf_V 5 (rf_sh w) K 0 0 38 ([(0, .ref 206), (1, .int a1), (2, .int a2), (3, .int a3), (4, .int a4)], [], rf_MM w m)) (a1 : Int32) (a2 : Int32) (a3 : Int32) (a4 : Int32) (m : rf_m) (hg : g_X14_haze_38_b w rec38 a1 a2 a3 a4 m = some r) : rf_V 5 (rf_sh w) K 0 0 38 ([(0, .ref 206), (1, .int a1), (2, .int a2), (3, .int a3), (4, .int a4)], [], rf_MM w m) := by
  unfold g_X14_haze_38_b at hg
  refine rf_seg C [(.iload 4, 2), (.aload 0, 1), (.invokeinterface 14 6, 3)] (pc' := 44) (S' := ([(0, .ref 206), (1, .int a1), (2, .int a2), (3, .int a3), (4, .int a4)], [.int (m.1 206 6), .int a4], rf_MM w m)) (by decide +kernel) rfl trivial ?_
  refine rf_icmp_ge C 31 75 (by decide +kernel) (fun hc => ?_) (fun hc => ?_)
  · replace hg := (if_pos hc).symm.trans hg
    refine rf_few [0, 1, 2, 3, 4] rfl ?_
    exact s_X14_haze_75 C hE a1 a2 a3 a4 m hg
  · replace hg := (if_neg hc).symm.trans hg
    obtain ⟨q0, hg⟩ := rf_g_some hg
    refine rf_seg C [(.aload 0, 1), (.invokeinterface 14 11, 3), (.iload 4, 2), (.iaload, 1), (.iload 1, 1)] (pc' := 55) (S' := ([(0, .ref 206), (1, .int a1), (2, .int a2), (3, .int a3), (4, .int a4)], [.int a1, .int (m.1 211 (Int32.toNatClampNeg a4))], rf_MM w m)) (by decide +kernel) rfl (rf_in_of q0) ?_
    refine rf_icmp_ne C 14 69 (by decide +kernel) (fun hc => ?_) (fun hc => ?_)
    · replace hg := (if_neg hc).symm.trans hg
      refine rf_few [0, 1, 2, 3, 4] rfl ?_
      exact s_X14_haze_69 C hE hr38 a1 a2 a3 a4 m hg
    · replace hg := (if_pos hc).symm.trans hg
      obtain ⟨q1, hg⟩ := rf_g_some hg
      refine rf_seg C [(.aload 0, 1), (.invokeinterface 14 12, 3), (.iload 4, 2), (.iaload, 1), (.iload 2, 1)] (pc' := 66) (S' := ([(0, .ref 206), (1, .int a1), (2, .int a2), (3, .int a3), (4, .int a4)], [.int a2, .int (m.1 212 (Int32.toNatClampNeg a4))], rf_MM w m)) (by decide +kernel) rfl (rf_in_of q1) ?_
      refine rf_icmp_eq C 9 75 (by decide +kernel) (fun hc => ?_) (fun hc => ?_)
      · replace hg := (if_pos hc).symm.trans hg
        refine rf_few [0, 1, 2, 3, 4] rfl ?_
        exact s_X14_haze_75 C hE a1 a2 a3 a4 m hg
      · replace hg := (if_neg hc).symm.trans hg
        refine rf_few [0, 1, 2, 3, 4] rfl ?_
        exact s_X14_haze_69 C hE hr38 a1 a2 a3 a4 m hg
theorem s_X14_haze_38 {w : rf_w} {K : rf_K} {r : Int32 × rf_m} (C : rf_Ctx 14 cX14_haze 5 2 (rf_sh w) K) (hE : rf_End (some .boolean) K (rf_sh w) 0 0 (some (.int r.1)) (rf_MM w r.2)) (n : Nat) : ∀ (a1 : Int32) (a2 : Int32) (a3 : Int32) (a4 : Int32) (m : rf_m), g_X14_haze_38 w n a1 a2 a3 a4 m = some r → rf_V 5 (rf_sh w) K 0 0 38 ([(0, .ref 206), (1, .int a1), (2, .int a2), (3, .int a3), (4, .int a4)], [], rf_MM w m) := by
  induction n with
  | zero => intro a1 a2 a3 a4 m hg; cases hg
  | succ n ih => intro a1 a2 a3 a4 m hg; exact s_X14_haze_38_b C hE ih a1 a2 a3 a4 m hg
theorem c_X14_haze {w : rf_w} {m : rf_m} {a1 : Int32} {a2 : Int32} {a3 : Int32} {r : Int32 × rf_m} (hg : g_X14_haze w m a1 a2 a3 = some r) : rf_Con j_X14_haze 2 (rf_sh w) [.ref 206, .int a1, .int a2, .int a3] (rf_MM w m) (some (.int r.1)) (rf_MM w r.2) := by
  refine rf_con j_X14_haze 2 ⟨by decide +kernel, rfl, Nat.le_of_ble_eq_true rfl⟩ (fun K C hE => ?_)
  unfold g_X14_haze at hg
  show rf_V 5 (rf_sh w) K 0 0 0 ([(0, .ref 206), (1, .int a1), (2, .int a2), (3, .int a3)], [], rf_MM w m)
  refine rf_seg C [(.aload 0, 1), (.iconst 0, 1), (.multianewarray 14 0, 3), (.iload 1, 1)] (pc' := 6) (S' := ([(0, .ref 206), (1, .int a1), (2, .int a2), (3, .int a3)], [.int a1], rf_MM w (rf_i m 206 0 0))) (by decide +kernel) rfl trivial ?_
  obtain ⟨y0, m0, hc0, hg⟩ := rf_b_some hg
  refine rf_calls C rf_fit0 j_X14_isDay (As := [.int a1]) (rest := []) mw_X14_isDay (c_X14_isDay hc0) (by decide) lk_14_366 rfl rfl (Nat.le_of_ble_eq_true rfl) (by decide +kernel) ?_
  show rf_V 5 (rf_sh w) K 0 0 9 ([(0, .ref 206), (1, .int a1), (2, .int a2), (3, .int a3)], [.int y0], rf_MM w m0)
  refine rf_if_eq C 20 29 (by decide +kernel) (fun hc => ?_) (fun hc => ?_)
  · replace hg := (if_pos hc).symm.trans hg
    refine rf_seg C [(.aload 0, 1), (.iconst 2, 1)] (pc' := 31) (S' := ([(0, .ref 206), (1, .int a1), (2, .int a2), (3, .int a3)], [.int 2, .ref 206], rf_MM w m0)) (by decide +kernel) rfl trivial ?_
    obtain ⟨y1, m1, hc1, hg⟩ := rf_b_some hg
    refine rf_callv C rf_fit0 j_X14_denied (ci := 14) (As := [.int 2]) (rest := []) mw_X14_denied (c_X14_denied hc1) (by decide) rfl (by decide) lk_14_342 rfl rfl (Nat.le_of_ble_eq_true rfl) (by decide +kernel) ?_
    show rf_V 5 (rf_sh w) K 0 0 34 ([(0, .ref 206), (1, .int a1), (2, .int a2), (3, .int a3)], [.int y1], rf_MM w m1)
    obtain ⟨q01, hg⟩ := rf_g_some hg
    obtain rfl := Option.some.inj hg
    exact rf_zret C hE (rf_01_of q01) (by decide +kernel)
  · replace hg := (if_neg hc).symm.trans hg
    refine rf_seg C [(.iload 2, 1)] (pc' := 13) (S' := ([(0, .ref 206), (1, .int a1), (2, .int a2), (3, .int a3)], [.int a2], rf_MM w m0)) (by decide +kernel) rfl trivial ?_
    obtain ⟨y2, m2, hc2, hg⟩ := rf_b_some hg
    refine rf_calls C rf_fit0 j_X14_isHour (As := [.int a2]) (rest := []) mw_X14_isHour (c_X14_isHour hc2) (by decide) lk_14_369 rfl rfl (Nat.le_of_ble_eq_true rfl) (by decide +kernel) ?_
    show rf_V 5 (rf_sh w) K 0 0 16 ([(0, .ref 206), (1, .int a1), (2, .int a2), (3, .int a3)], [.int y2], rf_MM w m2)
    refine rf_if_eq C 13 29 (by decide +kernel) (fun hc => ?_) (fun hc => ?_)
    · replace hg := (if_pos hc).symm.trans hg
      refine rf_seg C [(.aload 0, 1), (.iconst 2, 1)] (pc' := 31) (S' := ([(0, .ref 206), (1, .int a1), (2, .int a2), (3, .int a3)], [.int 2, .ref 206], rf_MM w m2)) (by decide +kernel) rfl trivial ?_
      obtain ⟨y3, m3, hc3, hg⟩ := rf_b_some hg
      refine rf_callv C rf_fit0 j_X14_denied (ci := 14) (As := [.int 2]) (rest := []) mw_X14_denied (c_X14_denied hc3) (by decide) rfl (by decide) lk_14_342 rfl rfl (Nat.le_of_ble_eq_true rfl) (by decide +kernel) ?_
      show rf_V 5 (rf_sh w) K 0 0 34 ([(0, .ref 206), (1, .int a1), (2, .int a2), (3, .int a3)], [.int y3], rf_MM w m3)
      obtain ⟨q01, hg⟩ := rf_g_some hg
      obtain rfl := Option.some.inj hg
      exact rf_zret C hE (rf_01_of q01) (by decide +kernel)
    · replace hg := (if_neg hc).symm.trans hg
      refine rf_seg C [(.iload 3, 1), (.iconst 0, 1), (.iconst 32, 2)] (pc' := 23) (S' := ([(0, .ref 206), (1, .int a1), (2, .int a2), (3, .int a3)], [.int 32, .int 0, .int a3], rf_MM w m2)) (by decide +kernel) rfl trivial ?_
      obtain ⟨y4, m4, hc4, hg⟩ := rf_b_some hg
      refine rf_calls C rf_fit0 j_X14_in (As := [.int a3, .int 0, .int 32]) (rest := []) mw_X14_in (c_X14_in hc4) (by decide) lk_14_345 rfl rfl (Nat.le_of_ble_eq_true rfl) (by decide +kernel) ?_
      show rf_V 5 (rf_sh w) K 0 0 26 ([(0, .ref 206), (1, .int a1), (2, .int a2), (3, .int a3)], [.int y4], rf_MM w m4)
      refine rf_if_ne C 9 35 (by decide +kernel) (fun hc => ?_) (fun hc => ?_)
      · replace hg := (if_neg hc).symm.trans hg
        refine rf_seg C [(.iconst 0, 1), (.istore 4, 2)] (pc' := 38) (S' := ([(4, .int 0), (0, .ref 206), (1, .int a1), (2, .int a2), (3, .int a3)], [], rf_MM w m4)) (by decide +kernel) rfl trivial ?_
        refine rf_few [1, 2, 3, 4, 0] rfl ?_
        exact s_X14_haze_38 C hE rf_fuel a1 a2 a3 0 m4 hg
      · replace hg := (if_pos hc).symm.trans hg
        refine rf_seg C [(.aload 0, 1), (.iconst 2, 1)] (pc' := 31) (S' := ([(0, .ref 206), (1, .int a1), (2, .int a2), (3, .int a3)], [.int 2, .ref 206], rf_MM w m4)) (by decide +kernel) rfl trivial ?_
        obtain ⟨y5, m5, hc5, hg⟩ := rf_b_some hg
        refine rf_callv C rf_fit0 j_X14_denied (ci := 14) (As := [.int 2]) (rest := []) mw_X14_denied (c_X14_denied hc5) (by decide) rfl (by decide) lk_14_342 rfl rfl (Nat.le_of_ble_eq_true rfl) (by decide +kernel) ?_
        show rf_V 5 (rf_sh w) K 0 0 34 ([(0, .ref 206), (1, .int a1), (2, .int a2), (3, .int a3)], [.int y5], rf_MM w m5)
        obtain ⟨q01, hg⟩ := rf_g_some hg
        obtain rfl := Option.some.inj hg
        exact rf_zret C hE (rf_01_of q01) (by decide +kernel)
-- X14_reachOf
abbrev j_X14_reachOf : rf_J := (14, yX14_reachOf, cX14_reachOf, 4, (some .int))
theorem mw_X14_reachOf : rf_mv j_X14_reachOf (rf_R 14) 2 := ⟨⟨rf_mem 21 (by decide +kernel), rf_mem 21 (by decide +kernel), rf_mem 0 (by decide +kernel), rf_mem 21 (by decide +kernel)⟩, by decide +kernel, by decide⟩
def g_X14_reachOf_37 (w : rf_w) (rec2 : Int32 → Int32 → Int32 → rf_m → Option (Int32 × rf_m)) (a1 : Int32) (a2 : Int32) (a3 : Int32) (m : rf_m) : Option (Int32 × rf_m) := rec2 a1 a2 (a3 + 1) m
def g_X14_reachOf_2_b (w : rf_w) (rec2 : Int32 → Int32 → Int32 → rf_m → Option (Int32 × rf_m)) (a1 : Int32) (a2 : Int32) (a3 : Int32) (m : rf_m) : Option (Int32 × rf_m) := (if (m.1 206 6) ≤ a3 then some (32, m) else rf_g (rf_in a3 200) ((if (m.1 211 (Int32.toNatClampNeg a3)) = a1 then rf_g (rf_in a3 200) ((if (m.1 212 (Int32.toNatClampNeg a3)) = a2 then rf_g (rf_in a3 200) (some (m.1 213 (Int32.toNatClampNeg a3), m)) else g_X14_reachOf_37 w rec2 a1 a2 a3 m)) else g_X14_reachOf_37 w rec2 a1 a2 a3 m)))
def g_X14_reachOf_2 (w : rf_w) : Nat → Int32 → Int32 → Int32 → rf_m → Option (Int32 × rf_m)
  | 0, _, _, _, _ => none
  | n + 1, a1, a2, a3, m => g_X14_reachOf_2_b w (g_X14_reachOf_2 w n) a1 a2 a3 m
def g_X14_reachOf (w : rf_w) (m : rf_m) (a1 : Int32) (a2 : Int32) : Option (Int32 × rf_m) := g_X14_reachOf_2 w rf_fuel a1 a2 0 m
theorem s_X14_reachOf_37 {w : rf_w} {K : rf_K} {r : Int32 × rf_m} (C : rf_Ctx 14 cX14_reachOf 4 1 (rf_sh w) K) (hE : rf_End (some .int) K (rf_sh w) 0 0 (some (.int r.1)) (rf_MM w r.2)) {rec2 : Int32 → Int32 → Int32 → rf_m → Option (Int32 × rf_m)} (hr2 : ∀ (a1 : Int32) (a2 : Int32) (a3 : Int32) (m : rf_m), rec2 a1 a2 a3 m = some r → rf_V 4 (rf_sh w) K 0 0 2 ([(0, .ref 206), (1, .int a1), (2, .int a2), (3, .int a3)], [], rf_MM w m)) (a1 : Int32) (a2 : Int32) (a3 : Int32) (m : rf_m) (hg : g_X14_reachOf_37 w rec2 a1 a2 a3 m = some r) : rf_V 4 (rf_sh w) K 0 0 37 ([(0, .ref 206), (1, .int a1), (2, .int a2), (3, .int a3)], [], rf_MM w m) := by
  unfold g_X14_reachOf_37 at hg
  refine rf_seg C [(.iinc 3 1, 3)] (pc' := 40) (S' := ([(3, .int (a3 + 1)), (0, .ref 206), (1, .int a1), (2, .int a2)], [], rf_MM w m)) (by decide +kernel) rfl trivial ?_
  refine rf_goto C (-38) 2 (by decide +kernel) ?_
  refine rf_few [1, 2, 3, 0] rfl ?_
  exact hr2 a1 a2 (a3 + 1) m hg
theorem s_X14_reachOf_2_b {w : rf_w} {K : rf_K} {r : Int32 × rf_m} (C : rf_Ctx 14 cX14_reachOf 4 1 (rf_sh w) K) (hE : rf_End (some .int) K (rf_sh w) 0 0 (some (.int r.1)) (rf_MM w r.2)) {rec2 : Int32 → Int32 → Int32 → rf_m → Option (Int32 × rf_m)} (hr2 : ∀ (a1 : Int32) (a2 : Int32) (a3 : Int32) (m : rf_m), rec2 a1 a2 a3 m = some r → rf_V 4 (rf_sh w) K 0 0 2 ([(0, .ref 206), (1, .int a1), (2, .int a2), (3, .int a3)], [], rf_MM w m)) (a1 : Int32) (a2 : Int32) (a3 : Int32) (m : rf_m) (hg : g_X14_reachOf_2_b w rec2 a1 a2 a3 m = some r) : rf_V 4 (rf_sh w) K 0 0 2 ([(0, .ref 206), (1, .int a1), (2, .int a2), (3, .int a3)], [], rf_MM w m) := by
  unfold g_X14_reachOf_2_b at hg
  refine rf_seg C [(.iload 3, 1), (.aload 0, 1), (.invokeinterface 14 6, 3)] (pc' := 7) (S' := ([(0, .ref 206), (1, .int a1), (2, .int a2), (3, .int a3)], [.int (m.1 206 6), .int a3], rf_MM w m)) (by decide +kernel) rfl trivial ?_
  refine rf_icmp_ge C 36 43 (by decide +kernel) (fun hc => ?_) (fun hc => ?_)
  · replace hg := (if_pos hc).symm.trans hg
    refine rf_seg C [(.iconst 32, 2)] (pc' := 45) (S' := ([(0, .ref 206), (1, .int a1), (2, .int a2), (3, .int a3)], [.int 32], rf_MM w m)) (by decide +kernel) rfl trivial ?_
    obtain rfl := Option.some.inj hg
    exact rf_iret C hE (by decide +kernel)
  · replace hg := (if_neg hc).symm.trans hg
    obtain ⟨q0, hg⟩ := rf_g_some hg
    refine rf_seg C [(.aload 0, 1), (.invokeinterface 14 11, 3), (.iload 3, 1), (.iaload, 1), (.iload 1, 1)] (pc' := 17) (S' := ([(0, .ref 206), (1, .int a1), (2, .int a2), (3, .int a3)], [.int a1, .int (m.1 211 (Int32.toNatClampNeg a3))], rf_MM w m)) (by decide +kernel) rfl (rf_in_of q0) ?_
    refine rf_icmp_ne C 20 37 (by decide +kernel) (fun hc => ?_) (fun hc => ?_)
    · replace hg := (if_neg hc).symm.trans hg
      refine rf_few [0, 1, 2, 3] rfl ?_
      exact s_X14_reachOf_37 C hE hr2 a1 a2 a3 m hg
    · replace hg := (if_pos hc).symm.trans hg
      obtain ⟨q1, hg⟩ := rf_g_some hg
      refine rf_seg C [(.aload 0, 1), (.invokeinterface 14 12, 3), (.iload 3, 1), (.iaload, 1), (.iload 2, 1)] (pc' := 27) (S' := ([(0, .ref 206), (1, .int a1), (2, .int a2), (3, .int a3)], [.int a2, .int (m.1 212 (Int32.toNatClampNeg a3))], rf_MM w m)) (by decide +kernel) rfl (rf_in_of q1) ?_
      refine rf_icmp_ne C 10 37 (by decide +kernel) (fun hc => ?_) (fun hc => ?_)
      · replace hg := (if_neg hc).symm.trans hg
        refine rf_few [0, 1, 2, 3] rfl ?_
        exact s_X14_reachOf_37 C hE hr2 a1 a2 a3 m hg
      · replace hg := (if_pos hc).symm.trans hg
        obtain ⟨q2, hg⟩ := rf_g_some hg
        refine rf_seg C [(.aload 0, 1), (.invokeinterface 14 13, 3), (.iload 3, 1), (.iaload, 1)] (pc' := 36) (S' := ([(0, .ref 206), (1, .int a1), (2, .int a2), (3, .int a3)], [.int (m.1 213 (Int32.toNatClampNeg a3))], rf_MM w m)) (by decide +kernel) rfl (rf_in_of q2) ?_
        obtain rfl := Option.some.inj hg
        exact rf_iret C hE (by decide +kernel)
theorem s_X14_reachOf_2 {w : rf_w} {K : rf_K} {r : Int32 × rf_m} (C : rf_Ctx 14 cX14_reachOf 4 1 (rf_sh w) K) (hE : rf_End (some .int) K (rf_sh w) 0 0 (some (.int r.1)) (rf_MM w r.2)) (n : Nat) : ∀ (a1 : Int32) (a2 : Int32) (a3 : Int32) (m : rf_m), g_X14_reachOf_2 w n a1 a2 a3 m = some r → rf_V 4 (rf_sh w) K 0 0 2 ([(0, .ref 206), (1, .int a1), (2, .int a2), (3, .int a3)], [], rf_MM w m) := by
  induction n with
  | zero => intro a1 a2 a3 m hg; cases hg
  | succ n ih => intro a1 a2 a3 m hg; exact s_X14_reachOf_2_b C hE ih a1 a2 a3 m hg
theorem c_X14_reachOf {w : rf_w} {m : rf_m} {a1 : Int32} {a2 : Int32} {r : Int32 × rf_m} (hg : g_X14_reachOf w m a1 a2 = some r) : rf_Con j_X14_reachOf 1 (rf_sh w) [.ref 206, .int a1, .int a2] (rf_MM w m) (some (.int r.1)) (rf_MM w r.2) := by
  refine rf_con j_X14_reachOf 1 ⟨by decide +kernel, rfl, Nat.le_of_ble_eq_true rfl⟩ (fun K C hE => ?_)
  unfold g_X14_reachOf at hg
  show rf_V 4 (rf_sh w) K 0 0 0 ([(0, .ref 206), (1, .int a1), (2, .int a2)], [], rf_MM w m)
  refine rf_seg C [(.iconst 0, 1), (.istore 3, 1)] (pc' := 2) (S' := ([(3, .int 0), (0, .ref 206), (1, .int a1), (2, .int a2)], [], rf_MM w m)) (by decide +kernel) rfl trivial ?_
  refine rf_few [1, 2, 3, 0] rfl ?_
  exact s_X14_reachOf_2 C hE rf_fuel a1 a2 0 m hg
-- X14_topOf
abbrev j_X14_topOf : rf_J := (14, yX14_topOf, cX14_topOf, 3, (some .int))
theorem mw_X14_topOf : rf_mv j_X14_topOf (rf_R 14) 2 := ⟨⟨rf_mem 21 (by decide +kernel), rf_mem 21 (by decide +kernel), rf_mem 0 (by decide +kernel), rf_mem 21 (by decide +kernel)⟩, by decide +kernel, by decide⟩
def g_X14_topOf (w : rf_w) (m : rf_m) (a1 : Int32) (a2 : Int32) : Option (Int32 × rf_m) := rf_g (rf_in a1 30) (rf_g (rf_in (m.1 209 (Int32.toNatClampNeg a1)) 1024) (rf_g (rf_in ((10000 * a1) + a2) 300000) (some (((m.1 207 (Int32.toNatClampNeg (m.1 209 (Int32.toNatClampNeg a1)))) + 5) + (m.1 210 (Int32.toNatClampNeg ((10000 * a1) + a2))), m))))
theorem c_X14_topOf {w : rf_w} {m : rf_m} {a1 : Int32} {a2 : Int32} {r : Int32 × rf_m} (hg : g_X14_topOf w m a1 a2 = some r) : rf_Con j_X14_topOf 1 (rf_sh w) [.ref 206, .int a1, .int a2] (rf_MM w m) (some (.int r.1)) (rf_MM w r.2) := by
  refine rf_con j_X14_topOf 1 ⟨by decide +kernel, rfl, Nat.le_of_ble_eq_true rfl⟩ (fun K C hE => ?_)
  unfold g_X14_topOf at hg
  show rf_V 3 (rf_sh w) K 0 0 0 ([(0, .ref 206), (1, .int a1), (2, .int a2)], [], rf_MM w m)
  obtain ⟨q0, hg⟩ := rf_g_some hg
  obtain ⟨q1, hg⟩ := rf_g_some hg
  obtain ⟨q2, hg⟩ := rf_g_some hg
  refine rf_seg C [(.aload 0, 1), (.invokeinterface 14 7, 3), (.aload 0, 1), (.invokeinterface 14 9, 3), (.iload 1, 1), (.iaload, 1), (.iaload, 1), (.iconst 5, 1), (.iadd, 1), (.aload 0, 1), (.invokeinterface 14 10, 3), (.iconst 10000, 3), (.iload 1, 1), (.imul, 1), (.iload 2, 1), (.iadd, 1), (.iaload, 1), (.iadd, 1)] (pc' := 26) (S' := ([(0, .ref 206), (1, .int a1), (2, .int a2)], [.int (((m.1 207 (Int32.toNatClampNeg (m.1 209 (Int32.toNatClampNeg a1)))) + 5) + (m.1 210 (Int32.toNatClampNeg ((10000 * a1) + a2))))], rf_MM w m)) (by decide +kernel) rfl (by exact ⟨(rf_in_of q0), (rf_in_of q1), (rf_in_of q2)⟩) ?_
  obtain rfl := Option.some.inj hg
  exact rf_iret C hE (by decide +kernel)
-- X14_see
abbrev j_X14_see : rf_J := (14, yX14_see, cX14_see, 15, (some .int))
theorem mw_X14_see : rf_mv j_X14_see (rf_R 14) 4 := ⟨⟨rf_mem 20 (by decide +kernel), rf_mem 20 (by decide +kernel), rf_mem 0 (by decide +kernel), rf_mem 20 (by decide +kernel)⟩, by decide +kernel, by decide⟩
def g_X14_see_181_b (w : rf_w) (rec181 : Int32 → Int32 → Int32 → Int32 → Int32 → Int32 → Int32 → Int32 → rf_m → Option (Int32 × rf_m)) (a5 : Int32) (a6 : Int32) (a7 : Int32) (a8 : Int32) (a9 : Int32) (a11 : Int32) (a12 : Int32) (a13 : Int32) (m : rf_m) : Option (Int32 × rf_m) := (if a9 ≤ a13 then some (0, m) else rf_b (g_X14_down w m (((2 * a13) * a8) + a9) (2 * a9)) fun y0 m0 => rf_b (g_X14_down w m0 (((2 * a13) * a7) + a9) (2 * a9)) fun y1 m1 => rf_vi (((32 * (a6 + y0)) + a5) + y1) fun x2 => rf_g (rf_in x2 1024) (rf_g (rf_in x2 1024) (rf_g (rf_nz a9) ((if (((m1.1 207 (Int32.toNatClampNeg x2)) + (m1.1 208 (Int32.toNatClampNeg x2))) + ((a13 * (a9 - a13)) / 4)) < (((a11 * (a9 - a13)) + (a12 * a13)) / a9) then rec181 a5 a6 a7 a8 a9 a11 a12 (a13 + 1) m1 else some (1 + a13, m1))))))
def g_X14_see_181 (w : rf_w) : Nat → Int32 → Int32 → Int32 → Int32 → Int32 → Int32 → Int32 → Int32 → rf_m → Option (Int32 × rf_m)
  | 0, _, _, _, _, _, _, _, _, _ => none
  | n + 1, a5, a6, a7, a8, a9, a11, a12, a13, m => g_X14_see_181_b w (g_X14_see_181 w n) a5 a6 a7 a8 a9 a11 a12 a13 m
def g_X14_see_156 (w : rf_w) (a1 : Int32) (a2 : Int32) (a3 : Int32) (a5 : Int32) (a6 : Int32) (a7 : Int32) (a8 : Int32) (a9 : Int32) (s0 : Int32) (s1 : Int32) (s2 : Int32) (m : rf_m) : Option (Int32 × rf_m) := (if s0 ≤ (s1 * s2) then rf_b (g_X14_topOf w m a1 a3) fun y0 m0 => rf_b (g_X14_topOf w m0 a2 a3) fun y1 m1 => g_X14_see_181 w rf_fuel a5 a6 a7 a8 a9 y0 y1 1 m1 else some (1, m))
def g_X14_see_135 (w : rf_w) (a1 : Int32) (a2 : Int32) (a3 : Int32) (a4 : Int32) (a5 : Int32) (a6 : Int32) (a7 : Int32) (a8 : Int32) (a9 : Int32) (s0 : Int32) (m : rf_m) : Option (Int32 × rf_m) := rf_b (g_X14_reachOf w m a3 a4) fun y0 m0 => (if s0 = 0 then g_X14_see_156 w a1 a2 a3 a5 a6 a7 a8 a9 a9 y0 1 m0 else g_X14_see_156 w a1 a2 a3 a5 a6 a7 a8 a9 a9 y0 2 m0)
def g_X14_see_134 (w : rf_w) (a1 : Int32) (a2 : Int32) (a3 : Int32) (a4 : Int32) (a5 : Int32) (a6 : Int32) (a7 : Int32) (a8 : Int32) (a9 : Int32) (m : rf_m) : Option (Int32 × rf_m) := g_X14_see_135 w a1 a2 a3 a4 a5 a6 a7 a8 a9 0 m
def g_X14_see_130 (w : rf_w) (a1 : Int32) (a2 : Int32) (a3 : Int32) (a4 : Int32) (a5 : Int32) (a6 : Int32) (a7 : Int32) (a8 : Int32) (a9 : Int32) (m : rf_m) : Option (Int32 × rf_m) := g_X14_see_135 w a1 a2 a3 a4 a5 a6 a7 a8 a9 1 m
def g_X14_see (w : rf_w) (m : rf_m) (a1 : Int32) (a2 : Int32) (a3 : Int32) (a4 : Int32) : Option (Int32 × rf_m) := rf_b (g_X14_isMark w (rf_i m 206 0 0) a1) fun y0 m0 => (if y0 = 0 then some ((-1), m0) else rf_b (g_X14_isMark w m0 a2) fun y1 m1 => (if y1 = 0 then some ((-1), m1) else (if a1 = a2 then some ((-1), m1) else rf_b (g_X14_isDay w m1 a3) fun y2 m2 => (if y2 = 0 then some ((-1), m2) else rf_b (g_X14_isHour w m2 a4) fun y3 m3 => (if y3 = 0 then some ((-1), m3) else rf_g (rf_in a1 30) (rf_vi ((m3.1 209 (Int32.toNatClampNeg a1)) - (m3.1 209 (Int32.toNatClampNeg a1)) / 32 * 32) fun x5 => rf_g (rf_in a1 30) (rf_vi ((m3.1 209 (Int32.toNatClampNeg a1)) / 32) fun x7 => rf_g (rf_in a2 30) (rf_vi (((m3.1 209 (Int32.toNatClampNeg a2)) - (m3.1 209 (Int32.toNatClampNeg a2)) / 32 * 32) - x5) fun x9 => rf_g (rf_in a2 30) (rf_vi (((m3.1 209 (Int32.toNatClampNeg a2)) / 32) - x7) fun x11 => rf_b (g_abs w m3 x9) fun y12 m12 => rf_b (g_abs w m12 x11) fun y13 m13 => rf_b (g_max w m13 y12 y13) fun y14 m14 => rf_g (rf_in a2 30) ((if (m14.1 214 (Int32.toNatClampNeg a2)) = 0 then g_X14_see_134 w a1 a2 a3 a4 x5 x7 x9 x11 y14 m14 else (if a4 < 5 then g_X14_see_130 w a1 a2 a3 a4 x5 x7 x9 x11 y14 m14 else (if a4 ≤ 19 then g_X14_see_134 w a1 a2 a3 a4 x5 x7 x9 x11 y14 m14 else g_X14_see_130 w a1 a2 a3 a4 x5 x7 x9 x11 y14 m14)))))))))))))
theorem s_X14_see_181_b {w : rf_w} {K : rf_K} {r : Int32 × rf_m} (C : rf_Ctx 14 cX14_see 15 2 (rf_sh w) K) (hE : rf_End (some .int) K (rf_sh w) 0 0 (some (.int r.1)) (rf_MM w r.2)) {rec181 : Int32 → Int32 → Int32 → Int32 → Int32 → Int32 → Int32 → Int32 → rf_m → Option (Int32 × rf_m)} (hr181 : ∀ (a5 : Int32) (a6 : Int32) (a7 : Int32) (a8 : Int32) (a9 : Int32) (a11 : Int32) (a12 : Int32) (a13 : Int32) (m : rf_m), rec181 a5 a6 a7 a8 a9 a11 a12 a13 m = some r → rf_V 15 (rf_sh w) K 0 0 181 ([(0, .ref 206), (5, .int a5), (6, .int a6), (7, .int a7), (8, .int a8), (9, .int a9), (11, .int a11), (12, .int a12), (13, .int a13)], [], rf_MM w m)) (a5 : Int32) (a6 : Int32) (a7 : Int32) (a8 : Int32) (a9 : Int32) (a11 : Int32) (a12 : Int32) (a13 : Int32) (m : rf_m) (hg : g_X14_see_181_b w rec181 a5 a6 a7 a8 a9 a11 a12 a13 m = some r) : rf_V 15 (rf_sh w) K 0 0 181 ([(0, .ref 206), (5, .int a5), (6, .int a6), (7, .int a7), (8, .int a8), (9, .int a9), (11, .int a11), (12, .int a12), (13, .int a13)], [], rf_MM w m) := by
  unfold g_X14_see_181_b at hg
  refine rf_seg C [(.iload 13, 2), (.iload 9, 2)] (pc' := 185) (S' := ([(0, .ref 206), (5, .int a5), (6, .int a6), (7, .int a7), (8, .int a8), (9, .int a9), (11, .int a11), (12, .int a12), (13, .int a13)], [.int a9, .int a13], rf_MM w m)) (by decide +kernel) rfl trivial ?_
  refine rf_icmp_ge C 106 291 (by decide +kernel) (fun hc => ?_) (fun hc => ?_)
  · replace hg := (if_pos hc).symm.trans hg
    refine rf_seg C [(.iconst 0, 1)] (pc' := 292) (S' := ([(0, .ref 206), (5, .int a5), (6, .int a6), (7, .int a7), (8, .int a8), (9, .int a9), (11, .int a11), (12, .int a12), (13, .int a13)], [.int 0], rf_MM w m)) (by decide +kernel) rfl trivial ?_
    obtain rfl := Option.some.inj hg
    exact rf_iret C hE (by decide +kernel)
  · replace hg := (if_neg hc).symm.trans hg
    refine rf_seg C [(.iconst 32, 2), (.iload 6, 2), (.iconst 2, 1), (.iload 13, 2), (.imul, 1), (.iload 8, 2), (.imul, 1), (.iload 9, 2), (.iadd, 1), (.iconst 2, 1), (.iload 9, 2), (.imul, 1)] (pc' := 206) (S' := ([(0, .ref 206), (5, .int a5), (6, .int a6), (7, .int a7), (8, .int a8), (9, .int a9), (11, .int a11), (12, .int a12), (13, .int a13)], [.int (2 * a9), .int (((2 * a13) * a8) + a9), .int a6, .int 32], rf_MM w m)) (by decide +kernel) rfl trivial ?_
    obtain ⟨y0, m0, hc0, hg⟩ := rf_b_some hg
    refine rf_calls C rf_fit0 j_X14_down (As := [.int (((2 * a13) * a8) + a9), .int (2 * a9)]) (rest := [.int a6, .int 32]) mw_X14_down (c_X14_down hc0) (by decide) lk_14_390 rfl rfl (Nat.le_of_ble_eq_true rfl) (by decide +kernel) ?_
    show rf_V 15 (rf_sh w) K 0 0 209 ([(0, .ref 206), (5, .int a5), (6, .int a6), (7, .int a7), (8, .int a8), (9, .int a9), (11, .int a11), (12, .int a12), (13, .int a13)], [.int y0, .int a6, .int 32], rf_MM w m0)
    refine rf_seg C [(.iadd, 1), (.imul, 1), (.iload 5, 2), (.iadd, 1), (.iconst 2, 1), (.iload 13, 2), (.imul, 1), (.iload 7, 2), (.imul, 1), (.iload 9, 2), (.iadd, 1), (.iconst 2, 1), (.iload 9, 2), (.imul, 1)] (pc' := 228) (S' := ([(0, .ref 206), (5, .int a5), (6, .int a6), (7, .int a7), (8, .int a8), (9, .int a9), (11, .int a11), (12, .int a12), (13, .int a13)], [.int (2 * a9), .int (((2 * a13) * a7) + a9), .int ((32 * (a6 + y0)) + a5)], rf_MM w m0)) (by decide +kernel) rfl trivial ?_
    obtain ⟨y1, m1, hc1, hg⟩ := rf_b_some hg
    refine rf_calls C rf_fit0 j_X14_down (As := [.int (((2 * a13) * a7) + a9), .int (2 * a9)]) (rest := [.int ((32 * (a6 + y0)) + a5)]) mw_X14_down (c_X14_down hc1) (by decide) lk_14_390 rfl rfl (Nat.le_of_ble_eq_true rfl) (by decide +kernel) ?_
    show rf_V 15 (rf_sh w) K 0 0 231 ([(0, .ref 206), (5, .int a5), (6, .int a6), (7, .int a7), (8, .int a8), (9, .int a9), (11, .int a11), (12, .int a12), (13, .int a13)], [.int y1, .int ((32 * (a6 + y0)) + a5)], rf_MM w m1)
    refine rf_seg C [(.iadd, 1)] (pc' := 232) (S' := ([(0, .ref 206), (5, .int a5), (6, .int a6), (7, .int a7), (8, .int a8), (9, .int a9), (11, .int a11), (12, .int a12), (13, .int a13)], [.int (((32 * (a6 + y0)) + a5) + y1)], rf_MM w m1)) (by decide +kernel) rfl trivial ?_
    obtain ⟨x2, hx2, hg⟩ := rf_vi_some hg
    refine rf_vi_top hx2 ?_
    obtain ⟨q3, hg⟩ := rf_g_some hg
    obtain ⟨q4, hg⟩ := rf_g_some hg
    obtain ⟨q5, hg⟩ := rf_g_some hg
    refine rf_seg C [(.istore 14, 2), (.aload 0, 1), (.invokeinterface 14 7, 3), (.iload 14, 2), (.iaload, 1), (.aload 0, 1), (.invokeinterface 14 8, 3), (.iload 14, 2), (.iaload, 1), (.iadd, 1), (.iload 13, 2), (.iload 9, 2), (.iload 13, 2), (.isub, 1), (.imul, 1), (.iconst 4, 1), (.idiv, 1), (.iadd, 1), (.iload 11, 2), (.iload 9, 2), (.iload 13, 2), (.isub, 1), (.imul, 1), (.iload 12, 2), (.iload 13, 2), (.imul, 1), (.iadd, 1), (.iload 9, 2), (.idiv, 1)] (pc' := 277) (S' := ([(14, .int x2), (0, .ref 206), (5, .int a5), (6, .int a6), (7, .int a7), (8, .int a8), (9, .int a9), (11, .int a11), (12, .int a12), (13, .int a13)], [.int (((a11 * (a9 - a13)) + (a12 * a13)) / a9), .int (((m1.1 207 (Int32.toNatClampNeg x2)) + (m1.1 208 (Int32.toNatClampNeg x2))) + ((a13 * (a9 - a13)) / 4))], rf_MM w m1)) (by decide +kernel) rfl (by exact ⟨(rf_in_of q3), (rf_in_of q4), (rf_nz_of (by decide)), (rf_nz_of q5)⟩) ?_
    refine rf_icmp_lt C 8 285 (by decide +kernel) (fun hc => ?_) (fun hc => ?_)
    · replace hg := (if_pos hc).symm.trans hg
      refine rf_seg C [(.iinc 13 1, 3)] (pc' := 288) (S' := ([(13, .int (a13 + 1)), (14, .int x2), (0, .ref 206), (5, .int a5), (6, .int a6), (7, .int a7), (8, .int a8), (9, .int a9), (11, .int a11), (12, .int a12)], [], rf_MM w m1)) (by decide +kernel) rfl trivial ?_
      refine rf_goto C (-107) 181 (by decide +kernel) ?_
      refine rf_few [2, 3, 4, 5, 6, 7, 8, 9, 0] rfl ?_
      exact hr181 a5 a6 a7 a8 a9 a11 a12 (a13 + 1) m1 hg
    · replace hg := (if_neg hc).symm.trans hg
      refine rf_seg C [(.iconst 1, 1), (.iload 13, 2), (.iadd, 1)] (pc' := 284) (S' := ([(14, .int x2), (0, .ref 206), (5, .int a5), (6, .int a6), (7, .int a7), (8, .int a8), (9, .int a9), (11, .int a11), (12, .int a12), (13, .int a13)], [.int (1 + a13)], rf_MM w m1)) (by decide +kernel) rfl trivial ?_
      obtain rfl := Option.some.inj hg
      exact rf_iret C hE (by decide +kernel)
theorem s_X14_see_181 {w : rf_w} {K : rf_K} {r : Int32 × rf_m} (C : rf_Ctx 14 cX14_see 15 2 (rf_sh w) K) (hE : rf_End (some .int) K (rf_sh w) 0 0 (some (.int r.1)) (rf_MM w r.2)) (n : Nat) : ∀ (a5 : Int32) (a6 : Int32) (a7 : Int32) (a8 : Int32) (a9 : Int32) (a11 : Int32) (a12 : Int32) (a13 : Int32) (m : rf_m), g_X14_see_181 w n a5 a6 a7 a8 a9 a11 a12 a13 m = some r → rf_V 15 (rf_sh w) K 0 0 181 ([(0, .ref 206), (5, .int a5), (6, .int a6), (7, .int a7), (8, .int a8), (9, .int a9), (11, .int a11), (12, .int a12), (13, .int a13)], [], rf_MM w m) := by
  induction n with
  | zero => intro a5 a6 a7 a8 a9 a11 a12 a13 m hg; cases hg
  | succ n ih => intro a5 a6 a7 a8 a9 a11 a12 a13 m hg; exact s_X14_see_181_b C hE ih a5 a6 a7 a8 a9 a11 a12 a13 m hg
theorem s_X14_see_156 {w : rf_w} {K : rf_K} {r : Int32 × rf_m} (C : rf_Ctx 14 cX14_see 15 2 (rf_sh w) K) (hE : rf_End (some .int) K (rf_sh w) 0 0 (some (.int r.1)) (rf_MM w r.2)) (a1 : Int32) (a2 : Int32) (a3 : Int32) (a5 : Int32) (a6 : Int32) (a7 : Int32) (a8 : Int32) (a9 : Int32) (s0 : Int32) (s1 : Int32) (s2 : Int32) (m : rf_m) (hg : g_X14_see_156 w a1 a2 a3 a5 a6 a7 a8 a9 s0 s1 s2 m = some r) : rf_V 15 (rf_sh w) K 0 0 156 ([(0, .ref 206), (1, .int a1), (2, .int a2), (3, .int a3), (5, .int a5), (6, .int a6), (7, .int a7), (8, .int a8), (9, .int a9)], [.int s2, .int s1, .int s0], rf_MM w m) := by
  unfold g_X14_see_156 at hg
  refine rf_seg C [(.imul, 1)] (pc' := 157) (S' := ([(0, .ref 206), (1, .int a1), (2, .int a2), (3, .int a3), (5, .int a5), (6, .int a6), (7, .int a7), (8, .int a8), (9, .int a9)], [.int (s1 * s2), .int s0], rf_MM w m)) (by decide +kernel) rfl trivial ?_
  refine rf_icmp_le C 5 162 (by decide +kernel) (fun hc => ?_) (fun hc => ?_)
  · replace hg := (if_pos hc).symm.trans hg
    refine rf_seg C [(.aload 0, 1), (.iload 1, 1), (.iload 3, 1)] (pc' := 165) (S' := ([(0, .ref 206), (1, .int a1), (2, .int a2), (3, .int a3), (5, .int a5), (6, .int a6), (7, .int a7), (8, .int a8), (9, .int a9)], [.int a3, .int a1, .ref 206], rf_MM w m)) (by decide +kernel) rfl trivial ?_
    obtain ⟨y0, m0, hc0, hg⟩ := rf_b_some hg
    refine rf_callv C rf_fit0 j_X14_topOf (ci := 14) (As := [.int a1, .int a3]) (rest := []) mw_X14_topOf (c_X14_topOf hc0) (by decide) rfl (by decide) lk_14_387 rfl rfl (Nat.le_of_ble_eq_true rfl) (by decide +kernel) ?_
    show rf_V 15 (rf_sh w) K 0 0 168 ([(0, .ref 206), (1, .int a1), (2, .int a2), (3, .int a3), (5, .int a5), (6, .int a6), (7, .int a7), (8, .int a8), (9, .int a9)], [.int y0], rf_MM w m0)
    refine rf_seg C [(.istore 11, 2), (.aload 0, 1), (.iload 2, 1), (.iload 3, 1)] (pc' := 173) (S' := ([(11, .int y0), (0, .ref 206), (1, .int a1), (2, .int a2), (3, .int a3), (5, .int a5), (6, .int a6), (7, .int a7), (8, .int a8), (9, .int a9)], [.int a3, .int a2, .ref 206], rf_MM w m0)) (by decide +kernel) rfl trivial ?_
    obtain ⟨y1, m1, hc1, hg⟩ := rf_b_some hg
    refine rf_callv C rf_fit0 j_X14_topOf (ci := 14) (As := [.int a2, .int a3]) (rest := []) mw_X14_topOf (c_X14_topOf hc1) (by decide) rfl (by decide) lk_14_387 rfl rfl (Nat.le_of_ble_eq_true rfl) (by decide +kernel) ?_
    show rf_V 15 (rf_sh w) K 0 0 176 ([(11, .int y0), (0, .ref 206), (1, .int a1), (2, .int a2), (3, .int a3), (5, .int a5), (6, .int a6), (7, .int a7), (8, .int a8), (9, .int a9)], [.int y1], rf_MM w m1)
    refine rf_seg C [(.istore 12, 2), (.iconst 1, 1), (.istore 13, 2)] (pc' := 181) (S' := ([(13, .int 1), (12, .int y1), (11, .int y0), (0, .ref 206), (1, .int a1), (2, .int a2), (3, .int a3), (5, .int a5), (6, .int a6), (7, .int a7), (8, .int a8), (9, .int a9)], [], rf_MM w m1)) (by decide +kernel) rfl trivial ?_
    refine rf_few [3, 7, 8, 9, 10, 11, 2, 1, 0] rfl ?_
    exact s_X14_see_181 C hE rf_fuel a5 a6 a7 a8 a9 y0 y1 1 m1 hg
  · replace hg := (if_neg hc).symm.trans hg
    refine rf_seg C [(.iconst 1, 1)] (pc' := 161) (S' := ([(0, .ref 206), (1, .int a1), (2, .int a2), (3, .int a3), (5, .int a5), (6, .int a6), (7, .int a7), (8, .int a8), (9, .int a9)], [.int 1], rf_MM w m)) (by decide +kernel) rfl trivial ?_
    obtain rfl := Option.some.inj hg
    exact rf_iret C hE (by decide +kernel)
theorem s_X14_see_135 {w : rf_w} {K : rf_K} {r : Int32 × rf_m} (C : rf_Ctx 14 cX14_see 15 2 (rf_sh w) K) (hE : rf_End (some .int) K (rf_sh w) 0 0 (some (.int r.1)) (rf_MM w r.2)) (a1 : Int32) (a2 : Int32) (a3 : Int32) (a4 : Int32) (a5 : Int32) (a6 : Int32) (a7 : Int32) (a8 : Int32) (a9 : Int32) (s0 : Int32) (m : rf_m) (hg : g_X14_see_135 w a1 a2 a3 a4 a5 a6 a7 a8 a9 s0 m = some r) : rf_V 15 (rf_sh w) K 0 0 135 ([(0, .ref 206), (1, .int a1), (2, .int a2), (3, .int a3), (4, .int a4), (5, .int a5), (6, .int a6), (7, .int a7), (8, .int a8), (9, .int a9)], [.int s0], rf_MM w m) := by
  unfold g_X14_see_135 at hg
  refine rf_seg C [(.istore 10, 2), (.iload 9, 2), (.aload 0, 1), (.iload 3, 1), (.iload 4, 2)] (pc' := 143) (S' := ([(10, .int s0), (0, .ref 206), (1, .int a1), (2, .int a2), (3, .int a3), (4, .int a4), (5, .int a5), (6, .int a6), (7, .int a7), (8, .int a8), (9, .int a9)], [.int a4, .int a3, .ref 206, .int a9], rf_MM w m)) (by decide +kernel) rfl trivial ?_
  obtain ⟨y0, m0, hc0, hg⟩ := rf_b_some hg
  refine rf_callv C rf_fit0 j_X14_reachOf (ci := 14) (As := [.int a3, .int a4]) (rest := [.int a9]) mw_X14_reachOf (c_X14_reachOf hc0) (by decide) rfl (by decide) lk_14_384 rfl rfl (Nat.le_of_ble_eq_true rfl) (by decide +kernel) ?_
  show rf_V 15 (rf_sh w) K 0 0 146 ([(10, .int s0), (0, .ref 206), (1, .int a1), (2, .int a2), (3, .int a3), (4, .int a4), (5, .int a5), (6, .int a6), (7, .int a7), (8, .int a8), (9, .int a9)], [.int y0, .int a9], rf_MM w m0)
  refine rf_seg C [(.iload 10, 2)] (pc' := 148) (S' := ([(10, .int s0), (0, .ref 206), (1, .int a1), (2, .int a2), (3, .int a3), (4, .int a4), (5, .int a5), (6, .int a6), (7, .int a7), (8, .int a8), (9, .int a9)], [.int s0, .int y0, .int a9], rf_MM w m0)) (by decide +kernel) rfl trivial ?_
  refine rf_if_eq C 7 155 (by decide +kernel) (fun hc => ?_) (fun hc => ?_)
  · replace hg := (if_pos hc).symm.trans hg
    refine rf_seg C [(.iconst 1, 1)] (pc' := 156) (S' := ([(10, .int s0), (0, .ref 206), (1, .int a1), (2, .int a2), (3, .int a3), (4, .int a4), (5, .int a5), (6, .int a6), (7, .int a7), (8, .int a8), (9, .int a9)], [.int 1, .int y0, .int a9], rf_MM w m0)) (by decide +kernel) rfl trivial ?_
    refine rf_few [1, 2, 3, 4, 6, 7, 8, 9, 10] rfl ?_
    exact s_X14_see_156 C hE a1 a2 a3 a5 a6 a7 a8 a9 a9 y0 1 m0 hg
  · replace hg := (if_neg hc).symm.trans hg
    refine rf_seg C [(.iconst 2, 1)] (pc' := 152) (S' := ([(10, .int s0), (0, .ref 206), (1, .int a1), (2, .int a2), (3, .int a3), (4, .int a4), (5, .int a5), (6, .int a6), (7, .int a7), (8, .int a8), (9, .int a9)], [.int 2, .int y0, .int a9], rf_MM w m0)) (by decide +kernel) rfl trivial ?_
    refine rf_goto C 4 156 (by decide +kernel) ?_
    refine rf_few [1, 2, 3, 4, 6, 7, 8, 9, 10] rfl ?_
    exact s_X14_see_156 C hE a1 a2 a3 a5 a6 a7 a8 a9 a9 y0 2 m0 hg
theorem s_X14_see_134 {w : rf_w} {K : rf_K} {r : Int32 × rf_m} (C : rf_Ctx 14 cX14_see 15 2 (rf_sh w) K) (hE : rf_End (some .int) K (rf_sh w) 0 0 (some (.int r.1)) (rf_MM w r.2)) (a1 : Int32) (a2 : Int32) (a3 : Int32) (a4 : Int32) (a5 : Int32) (a6 : Int32) (a7 : Int32) (a8 : Int32) (a9 : Int32) (m : rf_m) (hg : g_X14_see_134 w a1 a2 a3 a4 a5 a6 a7 a8 a9 m = some r) : rf_V 15 (rf_sh w) K 0 0 134 ([(0, .ref 206), (1, .int a1), (2, .int a2), (3, .int a3), (4, .int a4), (5, .int a5), (6, .int a6), (7, .int a7), (8, .int a8), (9, .int a9)], [], rf_MM w m) := by
  unfold g_X14_see_134 at hg
  refine rf_seg C [(.iconst 0, 1)] (pc' := 135) (S' := ([(0, .ref 206), (1, .int a1), (2, .int a2), (3, .int a3), (4, .int a4), (5, .int a5), (6, .int a6), (7, .int a7), (8, .int a8), (9, .int a9)], [.int 0], rf_MM w m)) (by decide +kernel) rfl trivial ?_
  refine rf_few [0, 1, 2, 3, 4, 5, 6, 7, 8, 9] rfl ?_
  exact s_X14_see_135 C hE a1 a2 a3 a4 a5 a6 a7 a8 a9 0 m hg
theorem s_X14_see_130 {w : rf_w} {K : rf_K} {r : Int32 × rf_m} (C : rf_Ctx 14 cX14_see 15 2 (rf_sh w) K) (hE : rf_End (some .int) K (rf_sh w) 0 0 (some (.int r.1)) (rf_MM w r.2)) (a1 : Int32) (a2 : Int32) (a3 : Int32) (a4 : Int32) (a5 : Int32) (a6 : Int32) (a7 : Int32) (a8 : Int32) (a9 : Int32) (m : rf_m) (hg : g_X14_see_130 w a1 a2 a3 a4 a5 a6 a7 a8 a9 m = some r) : rf_V 15 (rf_sh w) K 0 0 130 ([(0, .ref 206), (1, .int a1), (2, .int a2), (3, .int a3), (4, .int a4), (5, .int a5), (6, .int a6), (7, .int a7), (8, .int a8), (9, .int a9)], [], rf_MM w m) := by
  unfold g_X14_see_130 at hg
  refine rf_seg C [(.iconst 1, 1)] (pc' := 131) (S' := ([(0, .ref 206), (1, .int a1), (2, .int a2), (3, .int a3), (4, .int a4), (5, .int a5), (6, .int a6), (7, .int a7), (8, .int a8), (9, .int a9)], [.int 1], rf_MM w m)) (by decide +kernel) rfl trivial ?_
  refine rf_goto C 4 135 (by decide +kernel) ?_
  refine rf_few [0, 1, 2, 3, 4, 5, 6, 7, 8, 9] rfl ?_
  exact s_X14_see_135 C hE a1 a2 a3 a4 a5 a6 a7 a8 a9 1 m hg
theorem c_X14_see {w : rf_w} {m : rf_m} {a1 : Int32} {a2 : Int32} {a3 : Int32} {a4 : Int32} {r : Int32 × rf_m} (hg : g_X14_see w m a1 a2 a3 a4 = some r) : rf_Con j_X14_see 2 (rf_sh w) [.ref 206, .int a1, .int a2, .int a3, .int a4] (rf_MM w m) (some (.int r.1)) (rf_MM w r.2) := by
  refine rf_con j_X14_see 2 ⟨by decide +kernel, rfl, Nat.le_of_ble_eq_true rfl⟩ (fun K C hE => ?_)
  unfold g_X14_see at hg
  show rf_V 15 (rf_sh w) K 0 0 0 ([(0, .ref 206), (1, .int a1), (2, .int a2), (3, .int a3), (4, .int a4)], [], rf_MM w m)
  refine rf_seg C [(.aload 0, 1), (.iconst 0, 1), (.multianewarray 14 0, 3), (.aload 0, 1), (.iload 1, 1)] (pc' := 7) (S' := ([(0, .ref 206), (1, .int a1), (2, .int a2), (3, .int a3), (4, .int a4)], [.int a1, .ref 206], rf_MM w (rf_i m 206 0 0))) (by decide +kernel) rfl trivial ?_
  obtain ⟨y0, m0, hc0, hg⟩ := rf_b_some hg
  refine rf_callv C rf_fit0 j_X14_isMark (ci := 14) (As := [.int a1]) (rest := []) mw_X14_isMark (c_X14_isMark hc0) (by decide) rfl (by decide) lk_14_360 rfl rfl (Nat.le_of_ble_eq_true rfl) (by decide +kernel) ?_
  show rf_V 15 (rf_sh w) K 0 0 10 ([(0, .ref 206), (1, .int a1), (2, .int a2), (3, .int a3), (4, .int a4)], [.int y0], rf_MM w m0)
  refine rf_if_eq C 31 41 (by decide +kernel) (fun hc => ?_) (fun hc => ?_)
  · replace hg := (if_pos hc).symm.trans hg
    refine rf_seg C [(.iconst (-1), 1)] (pc' := 42) (S' := ([(0, .ref 206), (1, .int a1), (2, .int a2), (3, .int a3), (4, .int a4)], [.int ((-1))], rf_MM w m0)) (by decide +kernel) rfl trivial ?_
    obtain rfl := Option.some.inj hg
    exact rf_iret C hE (by decide +kernel)
  · replace hg := (if_neg hc).symm.trans hg
    refine rf_seg C [(.aload 0, 1), (.iload 2, 1)] (pc' := 15) (S' := ([(0, .ref 206), (1, .int a1), (2, .int a2), (3, .int a3), (4, .int a4)], [.int a2, .ref 206], rf_MM w m0)) (by decide +kernel) rfl trivial ?_
    obtain ⟨y1, m1, hc1, hg⟩ := rf_b_some hg
    refine rf_callv C rf_fit0 j_X14_isMark (ci := 14) (As := [.int a2]) (rest := []) mw_X14_isMark (c_X14_isMark hc1) (by decide) rfl (by decide) lk_14_360 rfl rfl (Nat.le_of_ble_eq_true rfl) (by decide +kernel) ?_
    show rf_V 15 (rf_sh w) K 0 0 18 ([(0, .ref 206), (1, .int a1), (2, .int a2), (3, .int a3), (4, .int a4)], [.int y1], rf_MM w m1)
    refine rf_if_eq C 23 41 (by decide +kernel) (fun hc => ?_) (fun hc => ?_)
    · replace hg := (if_pos hc).symm.trans hg
      refine rf_seg C [(.iconst (-1), 1)] (pc' := 42) (S' := ([(0, .ref 206), (1, .int a1), (2, .int a2), (3, .int a3), (4, .int a4)], [.int ((-1))], rf_MM w m1)) (by decide +kernel) rfl trivial ?_
      obtain rfl := Option.some.inj hg
      exact rf_iret C hE (by decide +kernel)
    · replace hg := (if_neg hc).symm.trans hg
      refine rf_seg C [(.iload 1, 1), (.iload 2, 1)] (pc' := 23) (S' := ([(0, .ref 206), (1, .int a1), (2, .int a2), (3, .int a3), (4, .int a4)], [.int a2, .int a1], rf_MM w m1)) (by decide +kernel) rfl trivial ?_
      refine rf_icmp_eq C 18 41 (by decide +kernel) (fun hc => ?_) (fun hc => ?_)
      · replace hg := (if_pos hc).symm.trans hg
        refine rf_seg C [(.iconst (-1), 1)] (pc' := 42) (S' := ([(0, .ref 206), (1, .int a1), (2, .int a2), (3, .int a3), (4, .int a4)], [.int ((-1))], rf_MM w m1)) (by decide +kernel) rfl trivial ?_
        obtain rfl := Option.some.inj hg
        exact rf_iret C hE (by decide +kernel)
      · replace hg := (if_neg hc).symm.trans hg
        refine rf_seg C [(.iload 3, 1)] (pc' := 27) (S' := ([(0, .ref 206), (1, .int a1), (2, .int a2), (3, .int a3), (4, .int a4)], [.int a3], rf_MM w m1)) (by decide +kernel) rfl trivial ?_
        obtain ⟨y2, m2, hc2, hg⟩ := rf_b_some hg
        refine rf_calls C rf_fit0 j_X14_isDay (As := [.int a3]) (rest := []) mw_X14_isDay (c_X14_isDay hc2) (by decide) lk_14_366 rfl rfl (Nat.le_of_ble_eq_true rfl) (by decide +kernel) ?_
        show rf_V 15 (rf_sh w) K 0 0 30 ([(0, .ref 206), (1, .int a1), (2, .int a2), (3, .int a3), (4, .int a4)], [.int y2], rf_MM w m2)
        refine rf_if_eq C 11 41 (by decide +kernel) (fun hc => ?_) (fun hc => ?_)
        · replace hg := (if_pos hc).symm.trans hg
          refine rf_seg C [(.iconst (-1), 1)] (pc' := 42) (S' := ([(0, .ref 206), (1, .int a1), (2, .int a2), (3, .int a3), (4, .int a4)], [.int ((-1))], rf_MM w m2)) (by decide +kernel) rfl trivial ?_
          obtain rfl := Option.some.inj hg
          exact rf_iret C hE (by decide +kernel)
        · replace hg := (if_neg hc).symm.trans hg
          refine rf_seg C [(.iload 4, 2)] (pc' := 35) (S' := ([(0, .ref 206), (1, .int a1), (2, .int a2), (3, .int a3), (4, .int a4)], [.int a4], rf_MM w m2)) (by decide +kernel) rfl trivial ?_
          obtain ⟨y3, m3, hc3, hg⟩ := rf_b_some hg
          refine rf_calls C rf_fit0 j_X14_isHour (As := [.int a4]) (rest := []) mw_X14_isHour (c_X14_isHour hc3) (by decide) lk_14_369 rfl rfl (Nat.le_of_ble_eq_true rfl) (by decide +kernel) ?_
          show rf_V 15 (rf_sh w) K 0 0 38 ([(0, .ref 206), (1, .int a1), (2, .int a2), (3, .int a3), (4, .int a4)], [.int y3], rf_MM w m3)
          refine rf_if_ne C 5 43 (by decide +kernel) (fun hc => ?_) (fun hc => ?_)
          · replace hg := (if_neg hc).symm.trans hg
            obtain ⟨q4, hg⟩ := rf_g_some hg
            refine rf_seg C [(.aload 0, 1), (.invokeinterface 14 9, 3), (.iload 1, 1), (.iaload, 1), (.iconst 32, 2), (.irem, 1)] (pc' := 52) (S' := ([(0, .ref 206), (1, .int a1), (2, .int a2), (3, .int a3), (4, .int a4)], [.int ((m3.1 209 (Int32.toNatClampNeg a1)) - (m3.1 209 (Int32.toNatClampNeg a1)) / 32 * 32)], rf_MM w m3)) (by decide +kernel) rfl (by exact ⟨(rf_in_of q4), (rf_nz_of (by decide))⟩) ?_
            obtain ⟨x5, hx5, hg⟩ := rf_vi_some hg
            refine rf_vi_top hx5 ?_
            obtain ⟨q6, hg⟩ := rf_g_some hg
            refine rf_seg C [(.istore 5, 2), (.aload 0, 1), (.invokeinterface 14 9, 3), (.iload 1, 1), (.iaload, 1), (.iconst 32, 2), (.idiv, 1)] (pc' := 63) (S' := ([(5, .int x5), (0, .ref 206), (1, .int a1), (2, .int a2), (3, .int a3), (4, .int a4)], [.int ((m3.1 209 (Int32.toNatClampNeg a1)) / 32)], rf_MM w m3)) (by decide +kernel) rfl (by exact ⟨(rf_in_of q6), (rf_nz_of (by decide))⟩) ?_
            obtain ⟨x7, hx7, hg⟩ := rf_vi_some hg
            refine rf_vi_top hx7 ?_
            obtain ⟨q8, hg⟩ := rf_g_some hg
            refine rf_seg C [(.istore 6, 2), (.aload 0, 1), (.invokeinterface 14 9, 3), (.iload 2, 1), (.iaload, 1), (.iconst 32, 2), (.irem, 1), (.iload 5, 2), (.isub, 1)] (pc' := 77) (S' := ([(6, .int x7), (5, .int x5), (0, .ref 206), (1, .int a1), (2, .int a2), (3, .int a3), (4, .int a4)], [.int (((m3.1 209 (Int32.toNatClampNeg a2)) - (m3.1 209 (Int32.toNatClampNeg a2)) / 32 * 32) - x5)], rf_MM w m3)) (by decide +kernel) rfl (by exact ⟨(rf_in_of q8), (rf_nz_of (by decide))⟩) ?_
            obtain ⟨x9, hx9, hg⟩ := rf_vi_some hg
            refine rf_vi_top hx9 ?_
            obtain ⟨q10, hg⟩ := rf_g_some hg
            refine rf_seg C [(.istore 7, 2), (.aload 0, 1), (.invokeinterface 14 9, 3), (.iload 2, 1), (.iaload, 1), (.iconst 32, 2), (.idiv, 1), (.iload 6, 2), (.isub, 1)] (pc' := 91) (S' := ([(7, .int x9), (6, .int x7), (5, .int x5), (0, .ref 206), (1, .int a1), (2, .int a2), (3, .int a3), (4, .int a4)], [.int (((m3.1 209 (Int32.toNatClampNeg a2)) / 32) - x7)], rf_MM w m3)) (by decide +kernel) rfl (by exact ⟨(rf_in_of q10), (rf_nz_of (by decide))⟩) ?_
            obtain ⟨x11, hx11, hg⟩ := rf_vi_some hg
            refine rf_vi_top hx11 ?_
            refine rf_seg C [(.istore 8, 2), (.iload 7, 2)] (pc' := 95) (S' := ([(8, .int x11), (7, .int x9), (6, .int x7), (5, .int x5), (0, .ref 206), (1, .int a1), (2, .int a2), (3, .int a3), (4, .int a4)], [.int x9], rf_MM w m3)) (by decide +kernel) rfl trivial ?_
            obtain ⟨y12, m12, hc12, hg⟩ := rf_b_some hg
            refine rf_calls C rf_fit0 j_abs (As := [.int x9]) (rest := []) mw_abs (c_abs hc12) (by decide) lk_14_381 rfl rfl (Nat.le_of_ble_eq_true rfl) (by decide +kernel) ?_
            show rf_V 15 (rf_sh w) K 0 0 98 ([(8, .int x11), (7, .int x9), (6, .int x7), (5, .int x5), (0, .ref 206), (1, .int a1), (2, .int a2), (3, .int a3), (4, .int a4)], [.int y12], rf_MM w m12)
            refine rf_seg C [(.iload 8, 2)] (pc' := 100) (S' := ([(8, .int x11), (7, .int x9), (6, .int x7), (5, .int x5), (0, .ref 206), (1, .int a1), (2, .int a2), (3, .int a3), (4, .int a4)], [.int x11, .int y12], rf_MM w m12)) (by decide +kernel) rfl trivial ?_
            obtain ⟨y13, m13, hc13, hg⟩ := rf_b_some hg
            refine rf_calls C rf_fit0 j_abs (As := [.int x11]) (rest := [.int y12]) mw_abs (c_abs hc13) (by decide) lk_14_381 rfl rfl (Nat.le_of_ble_eq_true rfl) (by decide +kernel) ?_
            show rf_V 15 (rf_sh w) K 0 0 103 ([(8, .int x11), (7, .int x9), (6, .int x7), (5, .int x5), (0, .ref 206), (1, .int a1), (2, .int a2), (3, .int a3), (4, .int a4)], [.int y13, .int y12], rf_MM w m13)
            obtain ⟨y14, m14, hc14, hg⟩ := rf_b_some hg
            refine rf_calls C rf_fit0 j_max (As := [.int y12, .int y13]) (rest := []) mw_max (c_max hc14) (by decide) lk_14_375 rfl rfl (Nat.le_of_ble_eq_true rfl) (by decide +kernel) ?_
            show rf_V 15 (rf_sh w) K 0 0 106 ([(8, .int x11), (7, .int x9), (6, .int x7), (5, .int x5), (0, .ref 206), (1, .int a1), (2, .int a2), (3, .int a3), (4, .int a4)], [.int y14], rf_MM w m14)
            obtain ⟨q15, hg⟩ := rf_g_some hg
            refine rf_seg C [(.istore 9, 2), (.aload 0, 1), (.invokeinterface 14 14, 3), (.iload 2, 1), (.baload, 1)] (pc' := 114) (S' := ([(9, .int y14), (8, .int x11), (7, .int x9), (6, .int x7), (5, .int x5), (0, .ref 206), (1, .int a1), (2, .int a2), (3, .int a3), (4, .int a4)], [.int (m14.1 214 (Int32.toNatClampNeg a2))], rf_MM w m14)) (by decide +kernel) rfl (rf_in_of q15) ?_
            refine rf_if_eq C 20 134 (by decide +kernel) (fun hc => ?_) (fun hc => ?_)
            · replace hg := (if_pos hc).symm.trans hg
              refine rf_few [5, 6, 7, 8, 9, 4, 3, 2, 1, 0] rfl ?_
              exact s_X14_see_134 C hE a1 a2 a3 a4 x5 x7 x9 x11 y14 m14 hg
            · replace hg := (if_neg hc).symm.trans hg
              refine rf_seg C [(.iload 4, 2), (.iconst 5, 1)] (pc' := 120) (S' := ([(9, .int y14), (8, .int x11), (7, .int x9), (6, .int x7), (5, .int x5), (0, .ref 206), (1, .int a1), (2, .int a2), (3, .int a3), (4, .int a4)], [.int 5, .int a4], rf_MM w m14)) (by decide +kernel) rfl trivial ?_
              refine rf_icmp_lt C 10 130 (by decide +kernel) (fun hc => ?_) (fun hc => ?_)
              · replace hg := (if_pos hc).symm.trans hg
                refine rf_few [5, 6, 7, 8, 9, 4, 3, 2, 1, 0] rfl ?_
                exact s_X14_see_130 C hE a1 a2 a3 a4 x5 x7 x9 x11 y14 m14 hg
              · replace hg := (if_neg hc).symm.trans hg
                refine rf_seg C [(.iload 4, 2), (.iconst 19, 2)] (pc' := 127) (S' := ([(9, .int y14), (8, .int x11), (7, .int x9), (6, .int x7), (5, .int x5), (0, .ref 206), (1, .int a1), (2, .int a2), (3, .int a3), (4, .int a4)], [.int 19, .int a4], rf_MM w m14)) (by decide +kernel) rfl trivial ?_
                refine rf_icmp_le C 7 134 (by decide +kernel) (fun hc => ?_) (fun hc => ?_)
                · replace hg := (if_pos hc).symm.trans hg
                  refine rf_few [5, 6, 7, 8, 9, 4, 3, 2, 1, 0] rfl ?_
                  exact s_X14_see_134 C hE a1 a2 a3 a4 x5 x7 x9 x11 y14 m14 hg
                · replace hg := (if_neg hc).symm.trans hg
                  refine rf_few [5, 6, 7, 8, 9, 4, 3, 2, 1, 0] rfl ?_
                  exact s_X14_see_130 C hE a1 a2 a3 a4 x5 x7 x9 x11 y14 m14 hg
          · replace hg := (if_pos hc).symm.trans hg
            refine rf_seg C [(.iconst (-1), 1)] (pc' := 42) (S' := ([(0, .ref 206), (1, .int a1), (2, .int a2), (3, .int a3), (4, .int a4)], [.int ((-1))], rf_MM w m3)) (by decide +kernel) rfl trivial ?_
            obtain rfl := Option.some.inj hg
            exact rf_iret C hE (by decide +kernel)
-- X14_isParty
abbrev j_X14_isParty : rf_J := (14, yX14_isParty, cX14_isParty, 2, (some .boolean))
theorem mw_X14_isParty : rf_mv j_X14_isParty (rf_R 14) 1 := ⟨⟨rf_mem 24 (by decide +kernel), rf_mem 24 (by decide +kernel), rf_mem 0 (by decide +kernel), rf_mem 24 (by decide +kernel)⟩, by decide +kernel, by decide⟩
def g_X14_isParty (w : rf_w) (m : rf_m) (a1 : Int32) : Option (Int32 × rf_m) := (if a1 < 0 then some (0, m) else (if (m.1 206 15) ≤ a1 then some (0, m) else some (1, m)))
theorem c_X14_isParty {w : rf_w} {m : rf_m} {a1 : Int32} {r : Int32 × rf_m} (hg : g_X14_isParty w m a1 = some r) : rf_Con j_X14_isParty 1 (rf_sh w) [.ref 206, .int a1] (rf_MM w m) (some (.int r.1)) (rf_MM w r.2) := by
  refine rf_con j_X14_isParty 1 ⟨by decide +kernel, rfl, Nat.le_of_ble_eq_true rfl⟩ (fun K C hE => ?_)
  unfold g_X14_isParty at hg
  show rf_V 2 (rf_sh w) K 0 0 0 ([(0, .ref 206), (1, .int a1)], [], rf_MM w m)
  refine rf_seg C [(.iload 1, 1)] (pc' := 1) (S' := ([(0, .ref 206), (1, .int a1)], [.int a1], rf_MM w m)) (by decide +kernel) rfl trivial ?_
  refine rf_if_lt C 15 16 (by decide +kernel) (fun hc => ?_) (fun hc => ?_)
  · replace hg := (if_pos hc).symm.trans hg
    refine rf_seg C [(.iconst 0, 1)] (pc' := 17) (S' := ([(0, .ref 206), (1, .int a1)], [.int 0], rf_MM w m)) (by decide +kernel) rfl trivial ?_
    obtain rfl := Option.some.inj hg
    exact rf_zret C hE (by decide) (by decide +kernel)
  · replace hg := (if_neg hc).symm.trans hg
    refine rf_seg C [(.iload 1, 1), (.aload 0, 1), (.invokeinterface 14 15, 3)] (pc' := 9) (S' := ([(0, .ref 206), (1, .int a1)], [.int (m.1 206 15), .int a1], rf_MM w m)) (by decide +kernel) rfl trivial ?_
    refine rf_icmp_ge C 7 16 (by decide +kernel) (fun hc => ?_) (fun hc => ?_)
    · replace hg := (if_pos hc).symm.trans hg
      refine rf_seg C [(.iconst 0, 1)] (pc' := 17) (S' := ([(0, .ref 206), (1, .int a1)], [.int 0], rf_MM w m)) (by decide +kernel) rfl trivial ?_
      obtain rfl := Option.some.inj hg
      exact rf_zret C hE (by decide) (by decide +kernel)
    · replace hg := (if_neg hc).symm.trans hg
      refine rf_seg C [(.iconst 1, 1)] (pc' := 13) (S' := ([(0, .ref 206), (1, .int a1)], [.int 1], rf_MM w m)) (by decide +kernel) rfl trivial ?_
      refine rf_goto C 4 17 (by decide +kernel) ?_
      obtain rfl := Option.some.inj hg
      exact rf_zret C hE (by decide) (by decide +kernel)
-- X14_isAngle
abbrev j_X14_isAngle : rf_J := (14, yX14_isAngle, cX14_isAngle, 2, (some .boolean))
theorem mw_X14_isAngle : rf_mv j_X14_isAngle (rf_R 14) 1 := ⟨⟨rf_mem 24 (by decide +kernel), rf_mem 24 (by decide +kernel), rf_mem 0 (by decide +kernel), rf_mem 24 (by decide +kernel)⟩, by decide +kernel, by decide⟩
def g_X14_isAngle (w : rf_w) (m : rf_m) (a1 : Int32) : Option (Int32 × rf_m) := (if a1 < 0 then some (0, m) else (if (m.1 206 16) ≤ a1 then some (0, m) else some (1, m)))
theorem c_X14_isAngle {w : rf_w} {m : rf_m} {a1 : Int32} {r : Int32 × rf_m} (hg : g_X14_isAngle w m a1 = some r) : rf_Con j_X14_isAngle 1 (rf_sh w) [.ref 206, .int a1] (rf_MM w m) (some (.int r.1)) (rf_MM w r.2) := by
  refine rf_con j_X14_isAngle 1 ⟨by decide +kernel, rfl, Nat.le_of_ble_eq_true rfl⟩ (fun K C hE => ?_)
  unfold g_X14_isAngle at hg
  show rf_V 2 (rf_sh w) K 0 0 0 ([(0, .ref 206), (1, .int a1)], [], rf_MM w m)
  refine rf_seg C [(.iload 1, 1)] (pc' := 1) (S' := ([(0, .ref 206), (1, .int a1)], [.int a1], rf_MM w m)) (by decide +kernel) rfl trivial ?_
  refine rf_if_lt C 15 16 (by decide +kernel) (fun hc => ?_) (fun hc => ?_)
  · replace hg := (if_pos hc).symm.trans hg
    refine rf_seg C [(.iconst 0, 1)] (pc' := 17) (S' := ([(0, .ref 206), (1, .int a1)], [.int 0], rf_MM w m)) (by decide +kernel) rfl trivial ?_
    obtain rfl := Option.some.inj hg
    exact rf_zret C hE (by decide) (by decide +kernel)
  · replace hg := (if_neg hc).symm.trans hg
    refine rf_seg C [(.iload 1, 1), (.aload 0, 1), (.invokeinterface 14 16, 3)] (pc' := 9) (S' := ([(0, .ref 206), (1, .int a1)], [.int (m.1 206 16), .int a1], rf_MM w m)) (by decide +kernel) rfl trivial ?_
    refine rf_icmp_ge C 7 16 (by decide +kernel) (fun hc => ?_) (fun hc => ?_)
    · replace hg := (if_pos hc).symm.trans hg
      refine rf_seg C [(.iconst 0, 1)] (pc' := 17) (S' := ([(0, .ref 206), (1, .int a1)], [.int 0], rf_MM w m)) (by decide +kernel) rfl trivial ?_
      obtain rfl := Option.some.inj hg
      exact rf_zret C hE (by decide) (by decide +kernel)
    · replace hg := (if_neg hc).symm.trans hg
      refine rf_seg C [(.iconst 1, 1)] (pc' := 13) (S' := ([(0, .ref 206), (1, .int a1)], [.int 1], rf_MM w m)) (by decide +kernel) rfl trivial ?_
      refine rf_goto C 4 17 (by decide +kernel) ?_
      obtain rfl := Option.some.inj hg
      exact rf_zret C hE (by decide) (by decide +kernel)
-- X14_isReading
abbrev j_X14_isReading : rf_J := (14, yX14_isReading, cX14_isReading, 2, (some .boolean))
theorem mw_X14_isReading : rf_mv j_X14_isReading (rf_R 14) 1 := ⟨⟨rf_mem 28 (by decide +kernel), rf_mem 28 (by decide +kernel), rf_mem 0 (by decide +kernel), rf_mem 28 (by decide +kernel)⟩, by decide +kernel, by decide⟩
def g_X14_isReading (w : rf_w) (m : rf_m) (a1 : Int32) : Option (Int32 × rf_m) := (if a1 < 0 then some (0, m) else (if (m.1 206 17) ≤ a1 then some (0, m) else some (1, m)))
theorem c_X14_isReading {w : rf_w} {m : rf_m} {a1 : Int32} {r : Int32 × rf_m} (hg : g_X14_isReading w m a1 = some r) : rf_Con j_X14_isReading 1 (rf_sh w) [.ref 206, .int a1] (rf_MM w m) (some (.int r.1)) (rf_MM w r.2) := by
  refine rf_con j_X14_isReading 1 ⟨by decide +kernel, rfl, Nat.le_of_ble_eq_true rfl⟩ (fun K C hE => ?_)
  unfold g_X14_isReading at hg
  show rf_V 2 (rf_sh w) K 0 0 0 ([(0, .ref 206), (1, .int a1)], [], rf_MM w m)
  refine rf_seg C [(.iload 1, 1)] (pc' := 1) (S' := ([(0, .ref 206), (1, .int a1)], [.int a1], rf_MM w m)) (by decide +kernel) rfl trivial ?_
  refine rf_if_lt C 15 16 (by decide +kernel) (fun hc => ?_) (fun hc => ?_)
  · replace hg := (if_pos hc).symm.trans hg
    refine rf_seg C [(.iconst 0, 1)] (pc' := 17) (S' := ([(0, .ref 206), (1, .int a1)], [.int 0], rf_MM w m)) (by decide +kernel) rfl trivial ?_
    obtain rfl := Option.some.inj hg
    exact rf_zret C hE (by decide) (by decide +kernel)
  · replace hg := (if_neg hc).symm.trans hg
    refine rf_seg C [(.iload 1, 1), (.aload 0, 1), (.invokeinterface 14 17, 3)] (pc' := 9) (S' := ([(0, .ref 206), (1, .int a1)], [.int (m.1 206 17), .int a1], rf_MM w m)) (by decide +kernel) rfl trivial ?_
    refine rf_icmp_ge C 7 16 (by decide +kernel) (fun hc => ?_) (fun hc => ?_)
    · replace hg := (if_pos hc).symm.trans hg
      refine rf_seg C [(.iconst 0, 1)] (pc' := 17) (S' := ([(0, .ref 206), (1, .int a1)], [.int 0], rf_MM w m)) (by decide +kernel) rfl trivial ?_
      obtain rfl := Option.some.inj hg
      exact rf_zret C hE (by decide) (by decide +kernel)
    · replace hg := (if_neg hc).symm.trans hg
      refine rf_seg C [(.iconst 1, 1)] (pc' := 13) (S' := ([(0, .ref 206), (1, .int a1)], [.int 1], rf_MM w m)) (by decide +kernel) rfl trivial ?_
      refine rf_goto C 4 17 (by decide +kernel) ?_
      obtain rfl := Option.some.inj hg
      exact rf_zret C hE (by decide) (by decide +kernel)
-- X14_party
abbrev j_X14_party : rf_J := (14, yX14_party, cX14_party, 2, (some .int))
theorem mw_X14_party : rf_mv j_X14_party (rf_R 14) 1 := ⟨⟨rf_mem 21 (by decide +kernel), rf_mem 22 (by decide +kernel), rf_mem 0 (by decide +kernel), rf_mem 22 (by decide +kernel)⟩, by decide +kernel, by decide⟩
def g_X14_party (w : rf_w) (m : rf_m) (a1 : Int32) : Option (Int32 × rf_m) := (if ((rf_i m 206 0 0).1 206 15) = 8 then rf_b (g_X14_refused w (rf_i m 206 0 0) 3) fun y2 m2 => some (y2, m2) else rf_g (rf_in ((rf_i m 206 0 0).1 206 15) 8) (rf_b (g_X14_done w (rf_i (rf_i (rf_i m 206 0 0) 215 (Int32.toNatClampNeg ((rf_i m 206 0 0).1 206 15)) (vp_nar .boolean a1)) 206 15 (((rf_i (rf_i m 206 0 0) 215 (Int32.toNatClampNeg ((rf_i m 206 0 0).1 206 15)) (vp_nar .boolean a1)).1 206 15) + 1)) (((rf_i (rf_i (rf_i m 206 0 0) 215 (Int32.toNatClampNeg ((rf_i m 206 0 0).1 206 15)) (vp_nar .boolean a1)) 206 15 (((rf_i (rf_i m 206 0 0) 215 (Int32.toNatClampNeg ((rf_i m 206 0 0).1 206 15)) (vp_nar .boolean a1)).1 206 15) + 1)).1 206 15) - 1)) fun y1 m1 => some (y1, m1)))
theorem c_X14_party {w : rf_w} {m : rf_m} {a1 : Int32} {r : Int32 × rf_m} (hg : g_X14_party w m a1 = some r) : rf_Con j_X14_party 2 (rf_sh w) [.ref 206, .int a1] (rf_MM w m) (some (.int r.1)) (rf_MM w r.2) := by
  refine rf_con j_X14_party 2 ⟨by decide +kernel, rfl, Nat.le_of_ble_eq_true rfl⟩ (fun K C hE => ?_)
  unfold g_X14_party at hg
  show rf_V 2 (rf_sh w) K 0 0 0 ([(0, .ref 206), (1, .int a1)], [], rf_MM w m)
  refine rf_seg C [(.aload 0, 1), (.iconst 0, 1), (.multianewarray 14 0, 3), (.aload 0, 1), (.invokeinterface 14 15, 3), (.iconst 8, 2)] (pc' := 11) (S' := ([(0, .ref 206), (1, .int a1)], [.int 8, .int ((rf_i m 206 0 0).1 206 15)], rf_MM w (rf_i m 206 0 0))) (by decide +kernel) rfl trivial ?_
  refine rf_icmp_ne C 9 20 (by decide +kernel) (fun hc => ?_) (fun hc => ?_)
  · replace hg := (if_neg hc).symm.trans hg
    obtain ⟨q0, hg⟩ := rf_g_some hg
    refine rf_seg C [(.aload 0, 1), (.invokeinterface 14 19, 3), (.aload 0, 1), (.invokeinterface 14 15, 3), (.iload 1, 1), (.bastore, 1), (.aload 0, 1), (.dup, 1), (.invokeinterface 14 15, 3), (.iconst 1, 1), (.iadd, 1), (.multianewarray 14 15, 3), (.aload 0, 1), (.aload 0, 1), (.invokeinterface 14 15, 3), (.iconst 1, 1), (.isub, 1)] (pc' := 47) (S' := ([(0, .ref 206), (1, .int a1)], [.int (((rf_i (rf_i (rf_i m 206 0 0) 215 (Int32.toNatClampNeg ((rf_i m 206 0 0).1 206 15)) (vp_nar .boolean a1)) 206 15 (((rf_i (rf_i m 206 0 0) 215 (Int32.toNatClampNeg ((rf_i m 206 0 0).1 206 15)) (vp_nar .boolean a1)).1 206 15) + 1)).1 206 15) - 1), .ref 206], rf_MM w (rf_i (rf_i (rf_i m 206 0 0) 215 (Int32.toNatClampNeg ((rf_i m 206 0 0).1 206 15)) (vp_nar .boolean a1)) 206 15 (((rf_i (rf_i m 206 0 0) 215 (Int32.toNatClampNeg ((rf_i m 206 0 0).1 206 15)) (vp_nar .boolean a1)).1 206 15) + 1)))) (by decide +kernel) rfl (rf_in_of q0) ?_
    obtain ⟨y1, m1, hc1, hg⟩ := rf_b_some hg
    refine rf_callv C rf_fit0 j_X14_done (ci := 14) (As := [.int (((rf_i (rf_i (rf_i m 206 0 0) 215 (Int32.toNatClampNeg ((rf_i m 206 0 0).1 206 15)) (vp_nar .boolean a1)) 206 15 (((rf_i (rf_i m 206 0 0) 215 (Int32.toNatClampNeg ((rf_i m 206 0 0).1 206 15)) (vp_nar .boolean a1)).1 206 15) + 1)).1 206 15) - 1)]) (rest := []) mw_X14_done (c_X14_done hc1) (by decide) rfl (by decide) lk_14_357 rfl rfl (Nat.le_of_ble_eq_true rfl) (by decide +kernel) ?_
    show rf_V 2 (rf_sh w) K 0 0 50 ([(0, .ref 206), (1, .int a1)], [.int y1], rf_MM w m1)
    obtain rfl := Option.some.inj hg
    exact rf_iret C hE (by decide +kernel)
  · replace hg := (if_pos hc).symm.trans hg
    refine rf_seg C [(.aload 0, 1), (.iconst 3, 1)] (pc' := 16) (S' := ([(0, .ref 206), (1, .int a1)], [.int 3, .ref 206], rf_MM w (rf_i m 206 0 0))) (by decide +kernel) rfl trivial ?_
    obtain ⟨y2, m2, hc2, hg⟩ := rf_b_some hg
    refine rf_callv C rf_fit0 j_X14_refused (ci := 14) (As := [.int 3]) (rest := []) mw_X14_refused (c_X14_refused hc2) (by decide) rfl (by decide) lk_14_353 rfl rfl (Nat.le_of_ble_eq_true rfl) (by decide +kernel) ?_
    show rf_V 2 (rf_sh w) K 0 0 19 ([(0, .ref 206), (1, .int a1)], [.int y2], rf_MM w m2)
    obtain rfl := Option.some.inj hg
    exact rf_iret C hE (by decide +kernel)
-- X14_angle
abbrev j_X14_angle : rf_J := (14, yX14_angle, cX14_angle, 4, (some .int))
theorem mw_X14_angle : rf_mv j_X14_angle (rf_R 14) 3 := ⟨⟨rf_mem 22 (by decide +kernel), rf_mem 22 (by decide +kernel), rf_mem 0 (by decide +kernel), rf_mem 22 (by decide +kernel)⟩, by decide +kernel, by decide⟩
def g_X14_angle (w : rf_w) (m : rf_m) (a1 : Int32) (a2 : Int32) (a3 : Int32) : Option (Int32 × rf_m) := rf_b (g_X14_isMark w (rf_i m 206 0 0) a1) fun y0 m0 => (if y0 = 0 then rf_b (g_X14_refused w m0 1) fun y1 m1 => some (y1, m1) else rf_b (g_X14_isMark w m0 a2) fun y2 m2 => (if y2 = 0 then rf_b (g_X14_refused w m2 1) fun y3 m3 => some (y3, m3) else rf_b (g_X14_isMark w m2 a3) fun y4 m4 => (if y4 = 0 then rf_b (g_X14_refused w m4 1) fun y13 m13 => some (y13, m13) else (if a1 = a2 then rf_b (g_X14_refused w m4 5) fun y5 m5 => some (y5, m5) else (if a1 = a3 then rf_b (g_X14_refused w m4 5) fun y6 m6 => some (y6, m6) else (if a2 = a3 then rf_b (g_X14_refused w m4 5) fun y12 m12 => some (y12, m12) else (if (m4.1 206 16) = 80 then rf_b (g_X14_refused w m4 3) fun y11 m11 => some (y11, m11) else rf_g (rf_in (m4.1 206 16) 80) (rf_g (rf_in ((rf_i m4 217 (Int32.toNatClampNeg (m4.1 206 16)) a1).1 206 16) 80) (rf_g (rf_in ((rf_i (rf_i m4 217 (Int32.toNatClampNeg (m4.1 206 16)) a1) 218 (Int32.toNatClampNeg ((rf_i m4 217 (Int32.toNatClampNeg (m4.1 206 16)) a1).1 206 16)) a2).1 206 16) 80) (rf_b (g_X14_done w (rf_i (rf_i (rf_i (rf_i m4 217 (Int32.toNatClampNeg (m4.1 206 16)) a1) 218 (Int32.toNatClampNeg ((rf_i m4 217 (Int32.toNatClampNeg (m4.1 206 16)) a1).1 206 16)) a2) 219 (Int32.toNatClampNeg ((rf_i (rf_i m4 217 (Int32.toNatClampNeg (m4.1 206 16)) a1) 218 (Int32.toNatClampNeg ((rf_i m4 217 (Int32.toNatClampNeg (m4.1 206 16)) a1).1 206 16)) a2).1 206 16)) a3) 206 16 (((rf_i (rf_i (rf_i m4 217 (Int32.toNatClampNeg (m4.1 206 16)) a1) 218 (Int32.toNatClampNeg ((rf_i m4 217 (Int32.toNatClampNeg (m4.1 206 16)) a1).1 206 16)) a2) 219 (Int32.toNatClampNeg ((rf_i (rf_i m4 217 (Int32.toNatClampNeg (m4.1 206 16)) a1) 218 (Int32.toNatClampNeg ((rf_i m4 217 (Int32.toNatClampNeg (m4.1 206 16)) a1).1 206 16)) a2).1 206 16)) a3).1 206 16) + 1)) (((rf_i (rf_i (rf_i (rf_i m4 217 (Int32.toNatClampNeg (m4.1 206 16)) a1) 218 (Int32.toNatClampNeg ((rf_i m4 217 (Int32.toNatClampNeg (m4.1 206 16)) a1).1 206 16)) a2) 219 (Int32.toNatClampNeg ((rf_i (rf_i m4 217 (Int32.toNatClampNeg (m4.1 206 16)) a1) 218 (Int32.toNatClampNeg ((rf_i m4 217 (Int32.toNatClampNeg (m4.1 206 16)) a1).1 206 16)) a2).1 206 16)) a3) 206 16 (((rf_i (rf_i (rf_i m4 217 (Int32.toNatClampNeg (m4.1 206 16)) a1) 218 (Int32.toNatClampNeg ((rf_i m4 217 (Int32.toNatClampNeg (m4.1 206 16)) a1).1 206 16)) a2) 219 (Int32.toNatClampNeg ((rf_i (rf_i m4 217 (Int32.toNatClampNeg (m4.1 206 16)) a1) 218 (Int32.toNatClampNeg ((rf_i m4 217 (Int32.toNatClampNeg (m4.1 206 16)) a1).1 206 16)) a2).1 206 16)) a3).1 206 16) + 1)).1 206 16) - 1)) fun y10 m10 => some (y10, m10)))))))))))
theorem c_X14_angle {w : rf_w} {m : rf_m} {a1 : Int32} {a2 : Int32} {a3 : Int32} {r : Int32 × rf_m} (hg : g_X14_angle w m a1 a2 a3 = some r) : rf_Con j_X14_angle 2 (rf_sh w) [.ref 206, .int a1, .int a2, .int a3] (rf_MM w m) (some (.int r.1)) (rf_MM w r.2) := by
  refine rf_con j_X14_angle 2 ⟨by decide +kernel, rfl, Nat.le_of_ble_eq_true rfl⟩ (fun K C hE => ?_)
  unfold g_X14_angle at hg
  show rf_V 4 (rf_sh w) K 0 0 0 ([(0, .ref 206), (1, .int a1), (2, .int a2), (3, .int a3)], [], rf_MM w m)
  refine rf_seg C [(.aload 0, 1), (.iconst 0, 1), (.multianewarray 14 0, 3), (.aload 0, 1), (.iload 1, 1)] (pc' := 7) (S' := ([(0, .ref 206), (1, .int a1), (2, .int a2), (3, .int a3)], [.int a1, .ref 206], rf_MM w (rf_i m 206 0 0))) (by decide +kernel) rfl trivial ?_
  obtain ⟨y0, m0, hc0, hg⟩ := rf_b_some hg
  refine rf_callv C rf_fit0 j_X14_isMark (ci := 14) (As := [.int a1]) (rest := []) mw_X14_isMark (c_X14_isMark hc0) (by decide) rfl (by decide) lk_14_360 rfl rfl (Nat.le_of_ble_eq_true rfl) (by decide +kernel) ?_
  show rf_V 4 (rf_sh w) K 0 0 10 ([(0, .ref 206), (1, .int a1), (2, .int a2), (3, .int a3)], [.int y0], rf_MM w m0)
  refine rf_if_eq C 19 29 (by decide +kernel) (fun hc => ?_) (fun hc => ?_)
  · replace hg := (if_pos hc).symm.trans hg
    refine rf_seg C [(.aload 0, 1), (.iconst 1, 1)] (pc' := 31) (S' := ([(0, .ref 206), (1, .int a1), (2, .int a2), (3, .int a3)], [.int 1, .ref 206], rf_MM w m0)) (by decide +kernel) rfl trivial ?_
    obtain ⟨y1, m1, hc1, hg⟩ := rf_b_some hg
    refine rf_callv C rf_fit0 j_X14_refused (ci := 14) (As := [.int 1]) (rest := []) mw_X14_refused (c_X14_refused hc1) (by decide) rfl (by decide) lk_14_353 rfl rfl (Nat.le_of_ble_eq_true rfl) (by decide +kernel) ?_
    show rf_V 4 (rf_sh w) K 0 0 34 ([(0, .ref 206), (1, .int a1), (2, .int a2), (3, .int a3)], [.int y1], rf_MM w m1)
    obtain rfl := Option.some.inj hg
    exact rf_iret C hE (by decide +kernel)
  · replace hg := (if_neg hc).symm.trans hg
    refine rf_seg C [(.aload 0, 1), (.iload 2, 1)] (pc' := 15) (S' := ([(0, .ref 206), (1, .int a1), (2, .int a2), (3, .int a3)], [.int a2, .ref 206], rf_MM w m0)) (by decide +kernel) rfl trivial ?_
    obtain ⟨y2, m2, hc2, hg⟩ := rf_b_some hg
    refine rf_callv C rf_fit0 j_X14_isMark (ci := 14) (As := [.int a2]) (rest := []) mw_X14_isMark (c_X14_isMark hc2) (by decide) rfl (by decide) lk_14_360 rfl rfl (Nat.le_of_ble_eq_true rfl) (by decide +kernel) ?_
    show rf_V 4 (rf_sh w) K 0 0 18 ([(0, .ref 206), (1, .int a1), (2, .int a2), (3, .int a3)], [.int y2], rf_MM w m2)
    refine rf_if_eq C 11 29 (by decide +kernel) (fun hc => ?_) (fun hc => ?_)
    · replace hg := (if_pos hc).symm.trans hg
      refine rf_seg C [(.aload 0, 1), (.iconst 1, 1)] (pc' := 31) (S' := ([(0, .ref 206), (1, .int a1), (2, .int a2), (3, .int a3)], [.int 1, .ref 206], rf_MM w m2)) (by decide +kernel) rfl trivial ?_
      obtain ⟨y3, m3, hc3, hg⟩ := rf_b_some hg
      refine rf_callv C rf_fit0 j_X14_refused (ci := 14) (As := [.int 1]) (rest := []) mw_X14_refused (c_X14_refused hc3) (by decide) rfl (by decide) lk_14_353 rfl rfl (Nat.le_of_ble_eq_true rfl) (by decide +kernel) ?_
      show rf_V 4 (rf_sh w) K 0 0 34 ([(0, .ref 206), (1, .int a1), (2, .int a2), (3, .int a3)], [.int y3], rf_MM w m3)
      obtain rfl := Option.some.inj hg
      exact rf_iret C hE (by decide +kernel)
    · replace hg := (if_neg hc).symm.trans hg
      refine rf_seg C [(.aload 0, 1), (.iload 3, 1)] (pc' := 23) (S' := ([(0, .ref 206), (1, .int a1), (2, .int a2), (3, .int a3)], [.int a3, .ref 206], rf_MM w m2)) (by decide +kernel) rfl trivial ?_
      obtain ⟨y4, m4, hc4, hg⟩ := rf_b_some hg
      refine rf_callv C rf_fit0 j_X14_isMark (ci := 14) (As := [.int a3]) (rest := []) mw_X14_isMark (c_X14_isMark hc4) (by decide) rfl (by decide) lk_14_360 rfl rfl (Nat.le_of_ble_eq_true rfl) (by decide +kernel) ?_
      show rf_V 4 (rf_sh w) K 0 0 26 ([(0, .ref 206), (1, .int a1), (2, .int a2), (3, .int a3)], [.int y4], rf_MM w m4)
      refine rf_if_ne C 9 35 (by decide +kernel) (fun hc => ?_) (fun hc => ?_)
      · replace hg := (if_neg hc).symm.trans hg
        refine rf_seg C [(.iload 1, 1), (.iload 2, 1)] (pc' := 37) (S' := ([(0, .ref 206), (1, .int a1), (2, .int a2), (3, .int a3)], [.int a2, .int a1], rf_MM w m4)) (by decide +kernel) rfl trivial ?_
        refine rf_icmp_eq C 13 50 (by decide +kernel) (fun hc => ?_) (fun hc => ?_)
        · replace hg := (if_pos hc).symm.trans hg
          refine rf_seg C [(.aload 0, 1), (.iconst 5, 1)] (pc' := 52) (S' := ([(0, .ref 206), (1, .int a1), (2, .int a2), (3, .int a3)], [.int 5, .ref 206], rf_MM w m4)) (by decide +kernel) rfl trivial ?_
          obtain ⟨y5, m5, hc5, hg⟩ := rf_b_some hg
          refine rf_callv C rf_fit0 j_X14_refused (ci := 14) (As := [.int 5]) (rest := []) mw_X14_refused (c_X14_refused hc5) (by decide) rfl (by decide) lk_14_353 rfl rfl (Nat.le_of_ble_eq_true rfl) (by decide +kernel) ?_
          show rf_V 4 (rf_sh w) K 0 0 55 ([(0, .ref 206), (1, .int a1), (2, .int a2), (3, .int a3)], [.int y5], rf_MM w m5)
          obtain rfl := Option.some.inj hg
          exact rf_iret C hE (by decide +kernel)
        · replace hg := (if_neg hc).symm.trans hg
          refine rf_seg C [(.iload 1, 1), (.iload 3, 1)] (pc' := 42) (S' := ([(0, .ref 206), (1, .int a1), (2, .int a2), (3, .int a3)], [.int a3, .int a1], rf_MM w m4)) (by decide +kernel) rfl trivial ?_
          refine rf_icmp_eq C 8 50 (by decide +kernel) (fun hc => ?_) (fun hc => ?_)
          · replace hg := (if_pos hc).symm.trans hg
            refine rf_seg C [(.aload 0, 1), (.iconst 5, 1)] (pc' := 52) (S' := ([(0, .ref 206), (1, .int a1), (2, .int a2), (3, .int a3)], [.int 5, .ref 206], rf_MM w m4)) (by decide +kernel) rfl trivial ?_
            obtain ⟨y6, m6, hc6, hg⟩ := rf_b_some hg
            refine rf_callv C rf_fit0 j_X14_refused (ci := 14) (As := [.int 5]) (rest := []) mw_X14_refused (c_X14_refused hc6) (by decide) rfl (by decide) lk_14_353 rfl rfl (Nat.le_of_ble_eq_true rfl) (by decide +kernel) ?_
            show rf_V 4 (rf_sh w) K 0 0 55 ([(0, .ref 206), (1, .int a1), (2, .int a2), (3, .int a3)], [.int y6], rf_MM w m6)
            obtain rfl := Option.some.inj hg
            exact rf_iret C hE (by decide +kernel)
          · replace hg := (if_neg hc).symm.trans hg
            refine rf_seg C [(.iload 2, 1), (.iload 3, 1)] (pc' := 47) (S' := ([(0, .ref 206), (1, .int a1), (2, .int a2), (3, .int a3)], [.int a3, .int a2], rf_MM w m4)) (by decide +kernel) rfl trivial ?_
            refine rf_icmp_ne C 9 56 (by decide +kernel) (fun hc => ?_) (fun hc => ?_)
            · replace hg := (if_neg hc).symm.trans hg
              refine rf_seg C [(.aload 0, 1), (.invokeinterface 14 16, 3), (.iconst 80, 2)] (pc' := 62) (S' := ([(0, .ref 206), (1, .int a1), (2, .int a2), (3, .int a3)], [.int 80, .int (m4.1 206 16)], rf_MM w m4)) (by decide +kernel) rfl trivial ?_
              refine rf_icmp_ne C 9 71 (by decide +kernel) (fun hc => ?_) (fun hc => ?_)
              · replace hg := (if_neg hc).symm.trans hg
                obtain ⟨q7, hg⟩ := rf_g_some hg
                obtain ⟨q8, hg⟩ := rf_g_some hg
                obtain ⟨q9, hg⟩ := rf_g_some hg
                refine rf_seg C [(.aload 0, 1), (.invokeinterface 14 21, 3), (.aload 0, 1), (.invokeinterface 14 16, 3), (.iload 1, 1), (.iastore, 1), (.aload 0, 1), (.invokeinterface 14 22, 3), (.aload 0, 1), (.invokeinterface 14 16, 3), (.iload 2, 1), (.iastore, 1), (.aload 0, 1), (.invokeinterface 14 23, 3), (.aload 0, 1), (.invokeinterface 14 16, 3), (.iload 3, 1), (.iastore, 1), (.aload 0, 1), (.dup, 1), (.invokeinterface 14 16, 3), (.iconst 1, 1), (.iadd, 1), (.multianewarray 14 16, 3), (.aload 0, 1), (.aload 0, 1), (.invokeinterface 14 16, 3), (.iconst 1, 1), (.isub, 1)] (pc' := 118) (S' := ([(0, .ref 206), (1, .int a1), (2, .int a2), (3, .int a3)], [.int (((rf_i (rf_i (rf_i (rf_i m4 217 (Int32.toNatClampNeg (m4.1 206 16)) a1) 218 (Int32.toNatClampNeg ((rf_i m4 217 (Int32.toNatClampNeg (m4.1 206 16)) a1).1 206 16)) a2) 219 (Int32.toNatClampNeg ((rf_i (rf_i m4 217 (Int32.toNatClampNeg (m4.1 206 16)) a1) 218 (Int32.toNatClampNeg ((rf_i m4 217 (Int32.toNatClampNeg (m4.1 206 16)) a1).1 206 16)) a2).1 206 16)) a3) 206 16 (((rf_i (rf_i (rf_i m4 217 (Int32.toNatClampNeg (m4.1 206 16)) a1) 218 (Int32.toNatClampNeg ((rf_i m4 217 (Int32.toNatClampNeg (m4.1 206 16)) a1).1 206 16)) a2) 219 (Int32.toNatClampNeg ((rf_i (rf_i m4 217 (Int32.toNatClampNeg (m4.1 206 16)) a1) 218 (Int32.toNatClampNeg ((rf_i m4 217 (Int32.toNatClampNeg (m4.1 206 16)) a1).1 206 16)) a2).1 206 16)) a3).1 206 16) + 1)).1 206 16) - 1), .ref 206], rf_MM w (rf_i (rf_i (rf_i (rf_i m4 217 (Int32.toNatClampNeg (m4.1 206 16)) a1) 218 (Int32.toNatClampNeg ((rf_i m4 217 (Int32.toNatClampNeg (m4.1 206 16)) a1).1 206 16)) a2) 219 (Int32.toNatClampNeg ((rf_i (rf_i m4 217 (Int32.toNatClampNeg (m4.1 206 16)) a1) 218 (Int32.toNatClampNeg ((rf_i m4 217 (Int32.toNatClampNeg (m4.1 206 16)) a1).1 206 16)) a2).1 206 16)) a3) 206 16 (((rf_i (rf_i (rf_i m4 217 (Int32.toNatClampNeg (m4.1 206 16)) a1) 218 (Int32.toNatClampNeg ((rf_i m4 217 (Int32.toNatClampNeg (m4.1 206 16)) a1).1 206 16)) a2) 219 (Int32.toNatClampNeg ((rf_i (rf_i m4 217 (Int32.toNatClampNeg (m4.1 206 16)) a1) 218 (Int32.toNatClampNeg ((rf_i m4 217 (Int32.toNatClampNeg (m4.1 206 16)) a1).1 206 16)) a2).1 206 16)) a3).1 206 16) + 1)))) (by decide +kernel) rfl (by exact ⟨(rf_in_of q7), (rf_in_of q8), (rf_in_of q9)⟩) ?_
                obtain ⟨y10, m10, hc10, hg⟩ := rf_b_some hg
                refine rf_callv C rf_fit0 j_X14_done (ci := 14) (As := [.int (((rf_i (rf_i (rf_i (rf_i m4 217 (Int32.toNatClampNeg (m4.1 206 16)) a1) 218 (Int32.toNatClampNeg ((rf_i m4 217 (Int32.toNatClampNeg (m4.1 206 16)) a1).1 206 16)) a2) 219 (Int32.toNatClampNeg ((rf_i (rf_i m4 217 (Int32.toNatClampNeg (m4.1 206 16)) a1) 218 (Int32.toNatClampNeg ((rf_i m4 217 (Int32.toNatClampNeg (m4.1 206 16)) a1).1 206 16)) a2).1 206 16)) a3) 206 16 (((rf_i (rf_i (rf_i m4 217 (Int32.toNatClampNeg (m4.1 206 16)) a1) 218 (Int32.toNatClampNeg ((rf_i m4 217 (Int32.toNatClampNeg (m4.1 206 16)) a1).1 206 16)) a2) 219 (Int32.toNatClampNeg ((rf_i (rf_i m4 217 (Int32.toNatClampNeg (m4.1 206 16)) a1) 218 (Int32.toNatClampNeg ((rf_i m4 217 (Int32.toNatClampNeg (m4.1 206 16)) a1).1 206 16)) a2).1 206 16)) a3).1 206 16) + 1)).1 206 16) - 1)]) (rest := []) mw_X14_done (c_X14_done hc10) (by decide) rfl (by decide) lk_14_357 rfl rfl (Nat.le_of_ble_eq_true rfl) (by decide +kernel) ?_
                show rf_V 4 (rf_sh w) K 0 0 121 ([(0, .ref 206), (1, .int a1), (2, .int a2), (3, .int a3)], [.int y10], rf_MM w m10)
                obtain rfl := Option.some.inj hg
                exact rf_iret C hE (by decide +kernel)
              · replace hg := (if_pos hc).symm.trans hg
                refine rf_seg C [(.aload 0, 1), (.iconst 3, 1)] (pc' := 67) (S' := ([(0, .ref 206), (1, .int a1), (2, .int a2), (3, .int a3)], [.int 3, .ref 206], rf_MM w m4)) (by decide +kernel) rfl trivial ?_
                obtain ⟨y11, m11, hc11, hg⟩ := rf_b_some hg
                refine rf_callv C rf_fit0 j_X14_refused (ci := 14) (As := [.int 3]) (rest := []) mw_X14_refused (c_X14_refused hc11) (by decide) rfl (by decide) lk_14_353 rfl rfl (Nat.le_of_ble_eq_true rfl) (by decide +kernel) ?_
                show rf_V 4 (rf_sh w) K 0 0 70 ([(0, .ref 206), (1, .int a1), (2, .int a2), (3, .int a3)], [.int y11], rf_MM w m11)
                obtain rfl := Option.some.inj hg
                exact rf_iret C hE (by decide +kernel)
            · replace hg := (if_pos hc).symm.trans hg
              refine rf_seg C [(.aload 0, 1), (.iconst 5, 1)] (pc' := 52) (S' := ([(0, .ref 206), (1, .int a1), (2, .int a2), (3, .int a3)], [.int 5, .ref 206], rf_MM w m4)) (by decide +kernel) rfl trivial ?_
              obtain ⟨y12, m12, hc12, hg⟩ := rf_b_some hg
              refine rf_callv C rf_fit0 j_X14_refused (ci := 14) (As := [.int 5]) (rest := []) mw_X14_refused (c_X14_refused hc12) (by decide) rfl (by decide) lk_14_353 rfl rfl (Nat.le_of_ble_eq_true rfl) (by decide +kernel) ?_
              show rf_V 4 (rf_sh w) K 0 0 55 ([(0, .ref 206), (1, .int a1), (2, .int a2), (3, .int a3)], [.int y12], rf_MM w m12)
              obtain rfl := Option.some.inj hg
              exact rf_iret C hE (by decide +kernel)
      · replace hg := (if_pos hc).symm.trans hg
        refine rf_seg C [(.aload 0, 1), (.iconst 1, 1)] (pc' := 31) (S' := ([(0, .ref 206), (1, .int a1), (2, .int a2), (3, .int a3)], [.int 1, .ref 206], rf_MM w m4)) (by decide +kernel) rfl trivial ?_
        obtain ⟨y13, m13, hc13, hg⟩ := rf_b_some hg
        refine rf_callv C rf_fit0 j_X14_refused (ci := 14) (As := [.int 1]) (rest := []) mw_X14_refused (c_X14_refused hc13) (by decide) rfl (by decide) lk_14_353 rfl rfl (Nat.le_of_ble_eq_true rfl) (by decide +kernel) ?_
        show rf_V 4 (rf_sh w) K 0 0 34 ([(0, .ref 206), (1, .int a1), (2, .int a2), (3, .int a3)], [.int y13], rf_MM w m13)
        obtain rfl := Option.some.inj hg
        exact rf_iret C hE (by decide +kernel)
-- X14_readingsOf
abbrev j_X14_readingsOf : rf_J := (14, yX14_readingsOf, cX14_readingsOf, 4, (some .int))
theorem mw_X14_readingsOf : rf_mv j_X14_readingsOf (rf_R 14) 1 := ⟨⟨rf_mem 25 (by decide +kernel), rf_mem 25 (by decide +kernel), rf_mem 0 (by decide +kernel), rf_mem 25 (by decide +kernel)⟩, by decide +kernel, by decide⟩
def g_X14_readingsOf_28 (w : rf_w) (rec4 : Int32 → Int32 → Int32 → rf_m → Option (Int32 × rf_m)) (a1 : Int32) (a3 : Int32) (s0 : Int32) (s1 : Int32) (m : rf_m) : Option (Int32 × rf_m) := rec4 a1 (s0 + s1) (a3 + 1) m
def g_X14_readingsOf_4_b (w : rf_w) (rec4 : Int32 → Int32 → Int32 → rf_m → Option (Int32 × rf_m)) (a1 : Int32) (a2 : Int32) (a3 : Int32) (m : rf_m) : Option (Int32 × rf_m) := (if (m.1 206 17) ≤ a3 then some (a2, m) else rf_g (rf_in a3 1200) ((if (m.1 220 (Int32.toNatClampNeg a3)) = a1 then g_X14_readingsOf_28 w rec4 a1 a3 a2 1 m else g_X14_readingsOf_28 w rec4 a1 a3 a2 0 m)))
def g_X14_readingsOf_4 (w : rf_w) : Nat → Int32 → Int32 → Int32 → rf_m → Option (Int32 × rf_m)
  | 0, _, _, _, _ => none
  | n + 1, a1, a2, a3, m => g_X14_readingsOf_4_b w (g_X14_readingsOf_4 w n) a1 a2 a3 m
def g_X14_readingsOf (w : rf_w) (m : rf_m) (a1 : Int32) : Option (Int32 × rf_m) := g_X14_readingsOf_4 w rf_fuel a1 0 0 m
theorem s_X14_readingsOf_28 {w : rf_w} {K : rf_K} {r : Int32 × rf_m} (C : rf_Ctx 14 cX14_readingsOf 4 1 (rf_sh w) K) (hE : rf_End (some .int) K (rf_sh w) 0 0 (some (.int r.1)) (rf_MM w r.2)) {rec4 : Int32 → Int32 → Int32 → rf_m → Option (Int32 × rf_m)} (hr4 : ∀ (a1 : Int32) (a2 : Int32) (a3 : Int32) (m : rf_m), rec4 a1 a2 a3 m = some r → rf_V 4 (rf_sh w) K 0 0 4 ([(0, .ref 206), (1, .int a1), (2, .int a2), (3, .int a3)], [], rf_MM w m)) (a1 : Int32) (a3 : Int32) (s0 : Int32) (s1 : Int32) (m : rf_m) (hg : g_X14_readingsOf_28 w rec4 a1 a3 s0 s1 m = some r) : rf_V 4 (rf_sh w) K 0 0 28 ([(0, .ref 206), (1, .int a1), (3, .int a3)], [.int s1, .int s0], rf_MM w m) := by
  unfold g_X14_readingsOf_28 at hg
  refine rf_seg C [(.iadd, 1), (.istore 2, 1), (.iinc 3 1, 3)] (pc' := 33) (S' := ([(3, .int (a3 + 1)), (2, .int (s0 + s1)), (0, .ref 206), (1, .int a1)], [], rf_MM w m)) (by decide +kernel) rfl trivial ?_
  refine rf_goto C (-29) 4 (by decide +kernel) ?_
  refine rf_few [2, 3, 1, 0] rfl ?_
  exact hr4 a1 (s0 + s1) (a3 + 1) m hg
theorem s_X14_readingsOf_4_b {w : rf_w} {K : rf_K} {r : Int32 × rf_m} (C : rf_Ctx 14 cX14_readingsOf 4 1 (rf_sh w) K) (hE : rf_End (some .int) K (rf_sh w) 0 0 (some (.int r.1)) (rf_MM w r.2)) {rec4 : Int32 → Int32 → Int32 → rf_m → Option (Int32 × rf_m)} (hr4 : ∀ (a1 : Int32) (a2 : Int32) (a3 : Int32) (m : rf_m), rec4 a1 a2 a3 m = some r → rf_V 4 (rf_sh w) K 0 0 4 ([(0, .ref 206), (1, .int a1), (2, .int a2), (3, .int a3)], [], rf_MM w m)) (a1 : Int32) (a2 : Int32) (a3 : Int32) (m : rf_m) (hg : g_X14_readingsOf_4_b w rec4 a1 a2 a3 m = some r) : rf_V 4 (rf_sh w) K 0 0 4 ([(0, .ref 206), (1, .int a1), (2, .int a2), (3, .int a3)], [], rf_MM w m) := by
  unfold g_X14_readingsOf_4_b at hg
  refine rf_seg C [(.iload 3, 1), (.aload 0, 1), (.invokeinterface 14 17, 3)] (pc' := 9) (S' := ([(0, .ref 206), (1, .int a1), (2, .int a2), (3, .int a3)], [.int (m.1 206 17), .int a3], rf_MM w m)) (by decide +kernel) rfl trivial ?_
  refine rf_icmp_ge C 27 36 (by decide +kernel) (fun hc => ?_) (fun hc => ?_)
  · replace hg := (if_pos hc).symm.trans hg
    refine rf_seg C [(.iload 2, 1)] (pc' := 37) (S' := ([(0, .ref 206), (1, .int a1), (2, .int a2), (3, .int a3)], [.int a2], rf_MM w m)) (by decide +kernel) rfl trivial ?_
    obtain rfl := Option.some.inj hg
    exact rf_iret C hE (by decide +kernel)
  · replace hg := (if_neg hc).symm.trans hg
    obtain ⟨q0, hg⟩ := rf_g_some hg
    refine rf_seg C [(.iload 2, 1), (.aload 0, 1), (.invokeinterface 14 24, 3), (.iload 3, 1), (.iaload, 1), (.iload 1, 1)] (pc' := 20) (S' := ([(0, .ref 206), (1, .int a1), (2, .int a2), (3, .int a3)], [.int a1, .int (m.1 220 (Int32.toNatClampNeg a3)), .int a2], rf_MM w m)) (by decide +kernel) rfl (rf_in_of q0) ?_
    refine rf_icmp_ne C 7 27 (by decide +kernel) (fun hc => ?_) (fun hc => ?_)
    · replace hg := (if_neg hc).symm.trans hg
      refine rf_seg C [(.iconst 0, 1)] (pc' := 28) (S' := ([(0, .ref 206), (1, .int a1), (2, .int a2), (3, .int a3)], [.int 0, .int a2], rf_MM w m)) (by decide +kernel) rfl trivial ?_
      refine rf_few [0, 1, 3] rfl ?_
      exact s_X14_readingsOf_28 C hE hr4 a1 a3 a2 0 m hg
    · replace hg := (if_pos hc).symm.trans hg
      refine rf_seg C [(.iconst 1, 1)] (pc' := 24) (S' := ([(0, .ref 206), (1, .int a1), (2, .int a2), (3, .int a3)], [.int 1, .int a2], rf_MM w m)) (by decide +kernel) rfl trivial ?_
      refine rf_goto C 4 28 (by decide +kernel) ?_
      refine rf_few [0, 1, 3] rfl ?_
      exact s_X14_readingsOf_28 C hE hr4 a1 a3 a2 1 m hg
theorem s_X14_readingsOf_4 {w : rf_w} {K : rf_K} {r : Int32 × rf_m} (C : rf_Ctx 14 cX14_readingsOf 4 1 (rf_sh w) K) (hE : rf_End (some .int) K (rf_sh w) 0 0 (some (.int r.1)) (rf_MM w r.2)) (n : Nat) : ∀ (a1 : Int32) (a2 : Int32) (a3 : Int32) (m : rf_m), g_X14_readingsOf_4 w n a1 a2 a3 m = some r → rf_V 4 (rf_sh w) K 0 0 4 ([(0, .ref 206), (1, .int a1), (2, .int a2), (3, .int a3)], [], rf_MM w m) := by
  induction n with
  | zero => intro a1 a2 a3 m hg; cases hg
  | succ n ih => intro a1 a2 a3 m hg; exact s_X14_readingsOf_4_b C hE ih a1 a2 a3 m hg
theorem c_X14_readingsOf {w : rf_w} {m : rf_m} {a1 : Int32} {r : Int32 × rf_m} (hg : g_X14_readingsOf w m a1 = some r) : rf_Con j_X14_readingsOf 1 (rf_sh w) [.ref 206, .int a1] (rf_MM w m) (some (.int r.1)) (rf_MM w r.2) := by
  refine rf_con j_X14_readingsOf 1 ⟨by decide +kernel, rfl, Nat.le_of_ble_eq_true rfl⟩ (fun K C hE => ?_)
  unfold g_X14_readingsOf at hg
  show rf_V 4 (rf_sh w) K 0 0 0 ([(0, .ref 206), (1, .int a1)], [], rf_MM w m)
  refine rf_seg C [(.iconst 0, 1), (.istore 2, 1), (.iconst 0, 1), (.istore 3, 1)] (pc' := 4) (S' := ([(3, .int 0), (2, .int 0), (0, .ref 206), (1, .int a1)], [], rf_MM w m)) (by decide +kernel) rfl trivial ?_
  refine rf_few [2, 3, 1, 0] rfl ?_
  exact s_X14_readingsOf_4 C hE rf_fuel a1 0 0 m hg
-- X14_isStruckBy
abbrev j_X14_isStruckBy : rf_J := (14, yX14_isStruckBy, cX14_isStruckBy, 5, (some .boolean))
theorem mw_X14_isStruckBy : rf_mv j_X14_isStruckBy (rf_R 14) 2 := ⟨⟨rf_mem 29 (by decide +kernel), rf_mem 29 (by decide +kernel), rf_mem 0 (by decide +kernel), rf_mem 29 (by decide +kernel)⟩, by decide +kernel, by decide⟩
def g_X14_isStruckBy_78 (w : rf_w) (rec20 : Int32 → Int32 → Int32 → Int32 → rf_m → Option (Int32 × rf_m)) (a1 : Int32) (a2 : Int32) (a3 : Int32) (a4 : Int32) (m : rf_m) : Option (Int32 × rf_m) := rec20 a1 a2 a3 (a4 + 1) m
def g_X14_isStruckBy_77 (w : rf_w) (rec20 : Int32 → Int32 → Int32 → Int32 → rf_m → Option (Int32 × rf_m)) (a1 : Int32) (a2 : Int32) (a4 : Int32) (s0 : Int32) (m : rf_m) : Option (Int32 × rf_m) := g_X14_isStruckBy_78 w rec20 a1 a2 s0 a4 m
def g_X14_isStruckBy_20_b (w : rf_w) (rec20 : Int32 → Int32 → Int32 → Int32 → rf_m → Option (Int32 × rf_m)) (a1 : Int32) (a2 : Int32) (a3 : Int32) (a4 : Int32) (m : rf_m) : Option (Int32 × rf_m) := (if (m.1 206 18) ≤ a4 then rf_g (rf_01 a3) (some (a3, m)) else rf_o (w.2.2 1) fun k0 => rf_o (rf_al w k0) fun k1 => rf_g (rf_in (3 * a4) k1) ((if (m.1 k0 (Int32.toNatClampNeg (3 * a4))) = a1 then rf_o (w.2.2 1) fun k3 => rf_o (rf_al w k3) fun k4 => rf_g (rf_in ((3 * a4) + 1) k4) ((if a2 < (m.1 k3 (Int32.toNatClampNeg ((3 * a4) + 1))) then g_X14_isStruckBy_78 w rec20 a1 a2 a3 a4 m else rf_o (w.2.2 1) fun k6 => rf_o (rf_al w k6) fun k7 => rf_g (rf_in ((3 * a4) + 2) k7) ((if (m.1 k6 (Int32.toNatClampNeg ((3 * a4) + 2))) = 1 then g_X14_isStruckBy_77 w rec20 a1 a2 a4 1 m else g_X14_isStruckBy_77 w rec20 a1 a2 a4 0 m)))) else g_X14_isStruckBy_78 w rec20 a1 a2 a3 a4 m)))
def g_X14_isStruckBy_20 (w : rf_w) : Nat → Int32 → Int32 → Int32 → Int32 → rf_m → Option (Int32 × rf_m)
  | 0, _, _, _, _, _ => none
  | n + 1, a1, a2, a3, a4, m => g_X14_isStruckBy_20_b w (g_X14_isStruckBy_20 w n) a1 a2 a3 a4 m
def g_X14_isStruckBy (w : rf_w) (m : rf_m) (a1 : Int32) (a2 : Int32) : Option (Int32 × rf_m) := (if a2 < (m.1 206 5) then g_X14_isStruckBy_20 w rf_fuel a1 a2 0 0 m else rf_g (rf_in a1 1200) (rf_g (rf_01 (m.1 216 (Int32.toNatClampNeg a1))) (some (m.1 216 (Int32.toNatClampNeg a1), m))))
theorem s_X14_isStruckBy_78 {w : rf_w} {K : rf_K} {r : Int32 × rf_m} (C : rf_Ctx 14 cX14_isStruckBy 5 1 (rf_sh w) K) (hE : rf_End (some .boolean) K (rf_sh w) 0 0 (some (.int r.1)) (rf_MM w r.2)) {rec20 : Int32 → Int32 → Int32 → Int32 → rf_m → Option (Int32 × rf_m)} (hr20 : ∀ (a1 : Int32) (a2 : Int32) (a3 : Int32) (a4 : Int32) (m : rf_m), rec20 a1 a2 a3 a4 m = some r → rf_V 5 (rf_sh w) K 0 0 20 ([(0, .ref 206), (1, .int a1), (2, .int a2), (3, .int a3), (4, .int a4)], [], rf_MM w m)) (a1 : Int32) (a2 : Int32) (a3 : Int32) (a4 : Int32) (m : rf_m) (hg : g_X14_isStruckBy_78 w rec20 a1 a2 a3 a4 m = some r) : rf_V 5 (rf_sh w) K 0 0 78 ([(0, .ref 206), (1, .int a1), (2, .int a2), (3, .int a3), (4, .int a4)], [], rf_MM w m) := by
  unfold g_X14_isStruckBy_78 at hg
  refine rf_seg C [(.iinc 4 1, 3)] (pc' := 81) (S' := ([(4, .int (a4 + 1)), (0, .ref 206), (1, .int a1), (2, .int a2), (3, .int a3)], [], rf_MM w m)) (by decide +kernel) rfl trivial ?_
  refine rf_goto C (-61) 20 (by decide +kernel) ?_
  refine rf_few [1, 2, 3, 4, 0] rfl ?_
  exact hr20 a1 a2 a3 (a4 + 1) m hg
theorem s_X14_isStruckBy_77 {w : rf_w} {K : rf_K} {r : Int32 × rf_m} (C : rf_Ctx 14 cX14_isStruckBy 5 1 (rf_sh w) K) (hE : rf_End (some .boolean) K (rf_sh w) 0 0 (some (.int r.1)) (rf_MM w r.2)) {rec20 : Int32 → Int32 → Int32 → Int32 → rf_m → Option (Int32 × rf_m)} (hr20 : ∀ (a1 : Int32) (a2 : Int32) (a3 : Int32) (a4 : Int32) (m : rf_m), rec20 a1 a2 a3 a4 m = some r → rf_V 5 (rf_sh w) K 0 0 20 ([(0, .ref 206), (1, .int a1), (2, .int a2), (3, .int a3), (4, .int a4)], [], rf_MM w m)) (a1 : Int32) (a2 : Int32) (a4 : Int32) (s0 : Int32) (m : rf_m) (hg : g_X14_isStruckBy_77 w rec20 a1 a2 a4 s0 m = some r) : rf_V 5 (rf_sh w) K 0 0 77 ([(0, .ref 206), (1, .int a1), (2, .int a2), (4, .int a4)], [.int s0], rf_MM w m) := by
  unfold g_X14_isStruckBy_77 at hg
  refine rf_seg C [(.istore 3, 1)] (pc' := 78) (S' := ([(3, .int s0), (0, .ref 206), (1, .int a1), (2, .int a2), (4, .int a4)], [], rf_MM w m)) (by decide +kernel) rfl trivial ?_
  refine rf_few [1, 2, 3, 0, 4] rfl ?_
  exact s_X14_isStruckBy_78 C hE hr20 a1 a2 s0 a4 m hg
theorem s_X14_isStruckBy_20_b {w : rf_w} {K : rf_K} {r : Int32 × rf_m} (C : rf_Ctx 14 cX14_isStruckBy 5 1 (rf_sh w) K) (hE : rf_End (some .boolean) K (rf_sh w) 0 0 (some (.int r.1)) (rf_MM w r.2)) {rec20 : Int32 → Int32 → Int32 → Int32 → rf_m → Option (Int32 × rf_m)} (hr20 : ∀ (a1 : Int32) (a2 : Int32) (a3 : Int32) (a4 : Int32) (m : rf_m), rec20 a1 a2 a3 a4 m = some r → rf_V 5 (rf_sh w) K 0 0 20 ([(0, .ref 206), (1, .int a1), (2, .int a2), (3, .int a3), (4, .int a4)], [], rf_MM w m)) (a1 : Int32) (a2 : Int32) (a3 : Int32) (a4 : Int32) (m : rf_m) (hg : g_X14_isStruckBy_20_b w rec20 a1 a2 a3 a4 m = some r) : rf_V 5 (rf_sh w) K 0 0 20 ([(0, .ref 206), (1, .int a1), (2, .int a2), (3, .int a3), (4, .int a4)], [], rf_MM w m) := by
  unfold g_X14_isStruckBy_20_b at hg
  refine rf_seg C [(.iload 4, 2), (.aload 0, 1), (.invokeinterface 14 18, 3)] (pc' := 26) (S' := ([(0, .ref 206), (1, .int a1), (2, .int a2), (3, .int a3), (4, .int a4)], [.int (m.1 206 18), .int a4], rf_MM w m)) (by decide +kernel) rfl trivial ?_
  refine rf_icmp_ge C 58 84 (by decide +kernel) (fun hc => ?_) (fun hc => ?_)
  · replace hg := (if_pos hc).symm.trans hg
    refine rf_seg C [(.iload 3, 1)] (pc' := 85) (S' := ([(0, .ref 206), (1, .int a1), (2, .int a2), (3, .int a3), (4, .int a4)], [.int a3], rf_MM w m)) (by decide +kernel) rfl trivial ?_
    obtain ⟨q01, hg⟩ := rf_g_some hg
    obtain rfl := Option.some.inj hg
    exact rf_zret C hE (rf_01_of q01) (by decide +kernel)
  · replace hg := (if_neg hc).symm.trans hg
    refine rf_seg C [(.aload 0, 1)] (pc' := 30) (S' := ([(0, .ref 206), (1, .int a1), (2, .int a2), (3, .int a3), (4, .int a4)], [.ref 206], rf_MM w m)) (by decide +kernel) rfl trivial ?_
    obtain ⟨k0, hk0, hg⟩ := rf_o_some hg
    refine rf_d_getr C 14 29 (q := k0) rfl rfl hk0 (by decide +kernel) ?_
    obtain ⟨k1, hk1, hg⟩ := rf_o_some hg
    show rf_V 5 (rf_sh w) K 0 0 33 ([(0, .ref 206), (1, .int a1), (2, .int a2), (3, .int a3), (4, .int a4)], [.ref k0], rf_MM w m)
    refine rf_seg C [(.iconst 3, 1), (.iload 4, 2), (.imul, 1)] (pc' := 37) (S' := ([(0, .ref 206), (1, .int a1), (2, .int a2), (3, .int a3), (4, .int a4)], [.int (3 * a4), .ref k0], rf_MM w m)) (by decide +kernel) rfl trivial ?_
    obtain ⟨q2, hg⟩ := rf_g_some hg
    refine rf_d_iaload C (rf_al_of hk1) (rf_in_of q2) (by decide +kernel) ?_
    show rf_V 5 (rf_sh w) K 0 0 38 ([(0, .ref 206), (1, .int a1), (2, .int a2), (3, .int a3), (4, .int a4)], [.int (m.1 k0 (Int32.toNatClampNeg (3 * a4)))], rf_MM w m)
    refine rf_seg C [(.iload 1, 1)] (pc' := 39) (S' := ([(0, .ref 206), (1, .int a1), (2, .int a2), (3, .int a3), (4, .int a4)], [.int a1, .int (m.1 k0 (Int32.toNatClampNeg (3 * a4)))], rf_MM w m)) (by decide +kernel) rfl trivial ?_
    refine rf_icmp_ne C 39 78 (by decide +kernel) (fun hc => ?_) (fun hc => ?_)
    · replace hg := (if_neg hc).symm.trans hg
      refine rf_few [0, 1, 2, 3, 4] rfl ?_
      exact s_X14_isStruckBy_78 C hE hr20 a1 a2 a3 a4 m hg
    · replace hg := (if_pos hc).symm.trans hg
      refine rf_seg C [(.aload 0, 1)] (pc' := 43) (S' := ([(0, .ref 206), (1, .int a1), (2, .int a2), (3, .int a3), (4, .int a4)], [.ref 206], rf_MM w m)) (by decide +kernel) rfl trivial ?_
      obtain ⟨k3, hk3, hg⟩ := rf_o_some hg
      refine rf_d_getr C 14 29 (q := k3) rfl rfl hk3 (by decide +kernel) ?_
      obtain ⟨k4, hk4, hg⟩ := rf_o_some hg
      show rf_V 5 (rf_sh w) K 0 0 46 ([(0, .ref 206), (1, .int a1), (2, .int a2), (3, .int a3), (4, .int a4)], [.ref k3], rf_MM w m)
      refine rf_seg C [(.iconst 3, 1), (.iload 4, 2), (.imul, 1), (.iconst 1, 1), (.iadd, 1)] (pc' := 52) (S' := ([(0, .ref 206), (1, .int a1), (2, .int a2), (3, .int a3), (4, .int a4)], [.int ((3 * a4) + 1), .ref k3], rf_MM w m)) (by decide +kernel) rfl trivial ?_
      obtain ⟨q5, hg⟩ := rf_g_some hg
      refine rf_d_iaload C (rf_al_of hk4) (rf_in_of q5) (by decide +kernel) ?_
      show rf_V 5 (rf_sh w) K 0 0 53 ([(0, .ref 206), (1, .int a1), (2, .int a2), (3, .int a3), (4, .int a4)], [.int (m.1 k3 (Int32.toNatClampNeg ((3 * a4) + 1)))], rf_MM w m)
      refine rf_seg C [(.iload 2, 1)] (pc' := 54) (S' := ([(0, .ref 206), (1, .int a1), (2, .int a2), (3, .int a3), (4, .int a4)], [.int a2, .int (m.1 k3 (Int32.toNatClampNeg ((3 * a4) + 1)))], rf_MM w m)) (by decide +kernel) rfl trivial ?_
      refine rf_icmp_gt C 24 78 (by decide +kernel) (fun hc => ?_) (fun hc => ?_)
      · replace hg := (if_pos hc).symm.trans hg
        refine rf_few [0, 1, 2, 3, 4] rfl ?_
        exact s_X14_isStruckBy_78 C hE hr20 a1 a2 a3 a4 m hg
      · replace hg := (if_neg hc).symm.trans hg
        refine rf_seg C [(.aload 0, 1)] (pc' := 58) (S' := ([(0, .ref 206), (1, .int a1), (2, .int a2), (3, .int a3), (4, .int a4)], [.ref 206], rf_MM w m)) (by decide +kernel) rfl trivial ?_
        obtain ⟨k6, hk6, hg⟩ := rf_o_some hg
        refine rf_d_getr C 14 29 (q := k6) rfl rfl hk6 (by decide +kernel) ?_
        obtain ⟨k7, hk7, hg⟩ := rf_o_some hg
        show rf_V 5 (rf_sh w) K 0 0 61 ([(0, .ref 206), (1, .int a1), (2, .int a2), (3, .int a3), (4, .int a4)], [.ref k6], rf_MM w m)
        refine rf_seg C [(.iconst 3, 1), (.iload 4, 2), (.imul, 1), (.iconst 2, 1), (.iadd, 1)] (pc' := 67) (S' := ([(0, .ref 206), (1, .int a1), (2, .int a2), (3, .int a3), (4, .int a4)], [.int ((3 * a4) + 2), .ref k6], rf_MM w m)) (by decide +kernel) rfl trivial ?_
        obtain ⟨q8, hg⟩ := rf_g_some hg
        refine rf_d_iaload C (rf_al_of hk7) (rf_in_of q8) (by decide +kernel) ?_
        show rf_V 5 (rf_sh w) K 0 0 68 ([(0, .ref 206), (1, .int a1), (2, .int a2), (3, .int a3), (4, .int a4)], [.int (m.1 k6 (Int32.toNatClampNeg ((3 * a4) + 2)))], rf_MM w m)
        refine rf_seg C [(.iconst 1, 1)] (pc' := 69) (S' := ([(0, .ref 206), (1, .int a1), (2, .int a2), (3, .int a3), (4, .int a4)], [.int 1, .int (m.1 k6 (Int32.toNatClampNeg ((3 * a4) + 2)))], rf_MM w m)) (by decide +kernel) rfl trivial ?_
        refine rf_icmp_ne C 7 76 (by decide +kernel) (fun hc => ?_) (fun hc => ?_)
        · replace hg := (if_neg hc).symm.trans hg
          refine rf_seg C [(.iconst 0, 1)] (pc' := 77) (S' := ([(0, .ref 206), (1, .int a1), (2, .int a2), (3, .int a3), (4, .int a4)], [.int 0], rf_MM w m)) (by decide +kernel) rfl trivial ?_
          refine rf_few [0, 1, 2, 4] rfl ?_
          exact s_X14_isStruckBy_77 C hE hr20 a1 a2 a4 0 m hg
        · replace hg := (if_pos hc).symm.trans hg
          refine rf_seg C [(.iconst 1, 1)] (pc' := 73) (S' := ([(0, .ref 206), (1, .int a1), (2, .int a2), (3, .int a3), (4, .int a4)], [.int 1], rf_MM w m)) (by decide +kernel) rfl trivial ?_
          refine rf_goto C 4 77 (by decide +kernel) ?_
          refine rf_few [0, 1, 2, 4] rfl ?_
          exact s_X14_isStruckBy_77 C hE hr20 a1 a2 a4 1 m hg
theorem s_X14_isStruckBy_20 {w : rf_w} {K : rf_K} {r : Int32 × rf_m} (C : rf_Ctx 14 cX14_isStruckBy 5 1 (rf_sh w) K) (hE : rf_End (some .boolean) K (rf_sh w) 0 0 (some (.int r.1)) (rf_MM w r.2)) (n : Nat) : ∀ (a1 : Int32) (a2 : Int32) (a3 : Int32) (a4 : Int32) (m : rf_m), g_X14_isStruckBy_20 w n a1 a2 a3 a4 m = some r → rf_V 5 (rf_sh w) K 0 0 20 ([(0, .ref 206), (1, .int a1), (2, .int a2), (3, .int a3), (4, .int a4)], [], rf_MM w m) := by
  induction n with
  | zero => intro a1 a2 a3 a4 m hg; cases hg
  | succ n ih => intro a1 a2 a3 a4 m hg; exact s_X14_isStruckBy_20_b C hE ih a1 a2 a3 a4 m hg
theorem c_X14_isStruckBy {w : rf_w} {m : rf_m} {a1 : Int32} {a2 : Int32} {r : Int32 × rf_m} (hg : g_X14_isStruckBy w m a1 a2 = some r) : rf_Con j_X14_isStruckBy 1 (rf_sh w) [.ref 206, .int a1, .int a2] (rf_MM w m) (some (.int r.1)) (rf_MM w r.2) := by
  refine rf_con j_X14_isStruckBy 1 ⟨by decide +kernel, rfl, Nat.le_of_ble_eq_true rfl⟩ (fun K C hE => ?_)
  unfold g_X14_isStruckBy at hg
  show rf_V 5 (rf_sh w) K 0 0 0 ([(0, .ref 206), (1, .int a1), (2, .int a2)], [], rf_MM w m)
  refine rf_seg C [(.iload 2, 1), (.aload 0, 1), (.invokeinterface 14 5, 3)] (pc' := 5) (S' := ([(0, .ref 206), (1, .int a1), (2, .int a2)], [.int (m.1 206 5), .int a2], rf_MM w m)) (by decide +kernel) rfl trivial ?_
  refine rf_icmp_lt C 10 15 (by decide +kernel) (fun hc => ?_) (fun hc => ?_)
  · replace hg := (if_pos hc).symm.trans hg
    refine rf_seg C [(.iconst 0, 1), (.istore 3, 1), (.iconst 0, 1), (.istore 4, 2)] (pc' := 20) (S' := ([(4, .int 0), (3, .int 0), (0, .ref 206), (1, .int a1), (2, .int a2)], [], rf_MM w m)) (by decide +kernel) rfl trivial ?_
    refine rf_few [2, 3, 4, 1, 0] rfl ?_
    exact s_X14_isStruckBy_20 C hE rf_fuel a1 a2 0 0 m hg
  · replace hg := (if_neg hc).symm.trans hg
    obtain ⟨q0, hg⟩ := rf_g_some hg
    refine rf_seg C [(.aload 0, 1), (.invokeinterface 14 20, 3), (.iload 1, 1), (.baload, 1)] (pc' := 14) (S' := ([(0, .ref 206), (1, .int a1), (2, .int a2)], [.int (m.1 216 (Int32.toNatClampNeg a1))], rf_MM w m)) (by decide +kernel) rfl (rf_in_of q0) ?_
    obtain ⟨q01, hg⟩ := rf_g_some hg
    obtain rfl := Option.some.inj hg
    exact rf_zret C hE (rf_01_of q01) (by decide +kernel)
