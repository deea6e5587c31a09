/-! methods as functions, and their contracts (written by wip/tool/gen.py) -/
-- X11_reading
abbrev j_X11_reading : rf_J := (11, yX11_reading, cX11_reading, 3, (some .int))
theorem mw_X11_reading : rf_mv j_X11_reading (rf_R 11) 2 := ⟨⟨rf_mem 25 (by decide +kernel), rf_mem 25 (by decide +kernel), rf_mem 0 (by decide +kernel), rf_mem 25 (by decide +kernel)⟩, by decide +kernel, by decide⟩
def g_X11_reading (w : rf_w) (m : rf_m) (a1 : Int32) (a2 : Int32) : Option (Int32 × rf_m) := rf_b (g_X3_isReading w m a1) fun y0 m0 => (if y0 = 0 then some ((-1), m0) else rf_b (g_X11_isWithin w m0 a2 0 8) fun y1 m1 => (if y1 = 0 then some ((-1), m1) else rf_b (g_X3_factOf w m1 a1 0) fun y2 m2 => rf_bv (g_X3_freshen w m2 y2) fun m3 => rf_b (g_X3_factOf w m3 a1 a2) fun y4 m4 => some (y4, m4)))
theorem c_X11_reading {w : rf_w} {m : rf_m} {a1 : Int32} {a2 : Int32} {r : Int32 × rf_m} (hg : g_X11_reading w m a1 a2 = some r) : rf_Con j_X11_reading 8 (rf_sh w) [.ref 0, .int a1, .int a2] (rf_MM w m) (some (.int r.1)) (rf_MM w r.2) := by
  refine rf_con j_X11_reading 8 ⟨by decide +kernel, rfl, Nat.le_of_ble_eq_true rfl⟩ (fun K C hE => ?_)
  unfold g_X11_reading at hg
  show rf_V 3 (rf_sh w) K 0 0 0 ([(0, .ref 0), (1, .int a1), (2, .int a2)], [], rf_MM w m)
  refine rf_seg C [(.aload 0, 1), (.invokeinterface 11 2, 3), (.iload 1, 1)] (pc' := 5) (S' := ([(0, .ref 0), (1, .int a1), (2, .int a2)], [.int a1, .ref 26], rf_MM w m)) (by decide +kernel) rfl trivial ?_
  obtain ⟨y0, m0, hc0, hg⟩ := rf_b_some hg
  refine rf_callv C rf_fit0 j_X3_isReading (ci := 3) (As := [.int a1]) (rest := []) mw_X3_isReading (c_X3_isReading hc0) (by decide) rfl (by decide) lk_11_187 rfl rfl (Nat.le_of_ble_eq_true rfl) (by decide +kernel) ?_
  show rf_V 3 (rf_sh w) K 0 0 8 ([(0, .ref 0), (1, .int a1), (2, .int a2)], [.int y0], rf_MM w m0)
  refine rf_if_eq C 13 21 (by decide +kernel) (fun hc => ?_) (fun hc => ?_)
  · replace hg := (if_pos hc).symm.trans hg
    refine rf_seg C [(.iconst (-1), 1)] (pc' := 22) (S' := ([(0, .ref 0), (1, .int a1), (2, .int a2)], [.int ((-1))], rf_MM w m0)) (by decide +kernel) rfl trivial ?_
    obtain rfl := Option.some.inj hg
    exact rf_iret C hE (by decide +kernel)
  · replace hg := (if_neg hc).symm.trans hg
    refine rf_seg C [(.iload 2, 1), (.iconst 0, 1), (.iconst 8, 2)] (pc' := 15) (S' := ([(0, .ref 0), (1, .int a1), (2, .int a2)], [.int 8, .int 0, .int a2], rf_MM w m0)) (by decide +kernel) rfl trivial ?_
    obtain ⟨y1, m1, hc1, hg⟩ := rf_b_some hg
    refine rf_calls C rf_fit0 j_X11_isWithin (As := [.int a2, .int 0, .int 8]) (rest := []) mw_X11_isWithin (c_X11_isWithin hc1) (by decide) lk_11_91 rfl rfl (Nat.le_of_ble_eq_true rfl) (by decide +kernel) ?_
    show rf_V 3 (rf_sh w) K 0 0 18 ([(0, .ref 0), (1, .int a1), (2, .int a2)], [.int y1], rf_MM w m1)
    refine rf_if_ne C 5 23 (by decide +kernel) (fun hc => ?_) (fun hc => ?_)
    · replace hg := (if_neg hc).symm.trans hg
      refine rf_seg C [(.aload 0, 1), (.invokeinterface 11 2, 3), (.aload 0, 1), (.invokeinterface 11 2, 3), (.iload 1, 1), (.iconst 0, 1)] (pc' := 33) (S' := ([(0, .ref 0), (1, .int a1), (2, .int a2)], [.int 0, .int a1, .ref 26, .ref 26], rf_MM w m1)) (by decide +kernel) rfl trivial ?_
      obtain ⟨y2, m2, hc2, hg⟩ := rf_b_some hg
      refine rf_callv C rf_fit0 j_X3_factOf (ci := 3) (As := [.int a1, .int 0]) (rest := [.ref 26]) mw_X3_factOf (c_X3_factOf hc2) (by decide) rfl (by decide) lk_11_190 rfl rfl (Nat.le_of_ble_eq_true rfl) (by decide +kernel) ?_
      show rf_V 3 (rf_sh w) K 0 0 36 ([(0, .ref 0), (1, .int a1), (2, .int a2)], [.int y2, .ref 26], rf_MM w m2)
      obtain ⟨m3, hc3, hg⟩ := rf_bv_some hg
      refine rf_callv C rf_fit0 j_X3_freshen (ci := 3) (As := [.int y2]) (rest := []) mw_X3_freshen (c_X3_freshen hc3) (by decide) rfl (by decide) lk_11_193 rfl rfl (Nat.le_of_ble_eq_true rfl) (by decide +kernel) ?_
      show rf_V 3 (rf_sh w) K 0 0 39 ([(0, .ref 0), (1, .int a1), (2, .int a2)], [], rf_MM w m3)
      refine rf_seg C [(.aload 0, 1), (.invokeinterface 11 2, 3), (.iload 1, 1), (.iload 2, 1)] (pc' := 45) (S' := ([(0, .ref 0), (1, .int a1), (2, .int a2)], [.int a2, .int a1, .ref 26], rf_MM w m3)) (by decide +kernel) rfl trivial ?_
      obtain ⟨y4, m4, hc4, hg⟩ := rf_b_some hg
      refine rf_callv C rf_fit0 j_X3_factOf (ci := 3) (As := [.int a1, .int a2]) (rest := []) mw_X3_factOf (c_X3_factOf hc4) (by decide) rfl (by decide) lk_11_190 rfl rfl (Nat.le_of_ble_eq_true rfl) (by decide +kernel) ?_
      show rf_V 3 (rf_sh w) K 0 0 48 ([(0, .ref 0), (1, .int a1), (2, .int a2)], [.int y4], rf_MM w m4)
      obtain rfl := Option.some.inj hg
      exact rf_iret C hE (by decide +kernel)
    · replace hg := (if_pos hc).symm.trans hg
      refine rf_seg C [(.iconst (-1), 1)] (pc' := 22) (S' := ([(0, .ref 0), (1, .int a1), (2, .int a2)], [.int ((-1))], rf_MM w m1)) (by decide +kernel) rfl trivial ?_
      obtain rfl := Option.some.inj hg
      exact rf_iret C hE (by decide +kernel)
-- X11_strike
abbrev j_X11_strike : rf_J := (11, yX11_strike, cX11_strike, 4, (some .boolean))
theorem mw_X11_strike : rf_mv j_X11_strike (rf_R 11) 3 := ⟨⟨rf_mem 30 (by decide +kernel), rf_mem 30 (by decide +kernel), rf_mem 0 (by decide +kernel), rf_mem 30 (by decide +kernel)⟩, by decide +kernel, by decide⟩
def g_X11_strike (w : rf_w) (m : rf_m) (a1 : Int32) (a2 : Int32) (a3 : Int32) : Option (Int32 × rf_m) := rf_b (g_X3_isReading w m a1) fun y0 m0 => (if y0 = 0 then rf_b (g_X11_denied w m0 1) fun y1 m1 => rf_g (rf_01 y1) (some (y1, m1)) else rf_b (g_X3_isParty w m0 a2) fun y2 m2 => (if y2 = 0 then rf_b (g_X11_denied w m2 1) fun y12 m12 => rf_g (rf_01 y12) (some (y12, m12)) else rf_g (rf_in a2 8) ((if (m2.1 27 (Int32.toNatClampNeg a2)) = 0 then rf_b (g_X11_denied w m2 5) fun y4 m4 => rf_g (rf_01 y4) (some (y4, m4)) else rf_b (g_X3_isSeen w m2 a1) fun y5 m5 => (if y5 = 0 then rf_b (g_X11_denied w m5 5) fun y6 m6 => rf_g (rf_01 y6) (some (y6, m6)) else rf_b (g_X3_isStruck w m5 a1 (m5.1 0 10)) fun y7 m7 => (if y7 = a3 then rf_b (g_X11_denied w m7 5) fun y11 m11 => rf_g (rf_01 y11) (some (y11, m11)) else rf_b (g_X3_addStrike w m7 a1 (m7.1 0 10) a3) fun y8 m8 => (if y8 = 0 then rf_b (g_X11_denied w m8 3) fun y9 m9 => rf_g (rf_01 y9) (some (y9, m9)) else rf_b (g_X11_granted w m8) fun y10 m10 => rf_g (rf_01 y10) (some (y10, m10)))))))))
theorem c_X11_strike {w : rf_w} {m : rf_m} {a1 : Int32} {a2 : Int32} {a3 : Int32} {r : Int32 × rf_m} (hg : g_X11_strike w m a1 a2 a3 = some r) : rf_Con j_X11_strike 3 (rf_sh w) [.ref 0, .int a1, .int a2, .int a3] (rf_MM w m) (some (.int r.1)) (rf_MM w r.2) := by
  refine rf_con j_X11_strike 3 ⟨by decide +kernel, rfl, Nat.le_of_ble_eq_true rfl⟩ (fun K C hE => ?_)
  unfold g_X11_strike at hg
  show rf_V 4 (rf_sh w) K 0 0 0 ([(0, .ref 0), (1, .int a1), (2, .int a2), (3, .int a3)], [], rf_MM w m)
  refine rf_seg C [(.aload 0, 1), (.invokeinterface 11 2, 3), (.iload 1, 1)] (pc' := 5) (S' := ([(0, .ref 0), (1, .int a1), (2, .int a2), (3, .int a3)], [.int a1, .ref 26], rf_MM w m)) (by decide +kernel) rfl trivial ?_
  obtain ⟨y0, m0, hc0, hg⟩ := rf_b_some hg
  refine rf_callv C rf_fit0 j_X3_isReading (ci := 3) (As := [.int a1]) (rest := []) mw_X3_isReading (c_X3_isReading hc0) (by decide) rfl (by decide) lk_11_187 rfl rfl (Nat.le_of_ble_eq_true rfl) (by decide +kernel) ?_
  show rf_V 4 (rf_sh w) K 0 0 8 ([(0, .ref 0), (1, .int a1), (2, .int a2), (3, .int a3)], [.int y0], rf_MM w m0)
  refine rf_if_eq C 14 22 (by decide +kernel) (fun hc => ?_) (fun hc => ?_)
  · replace hg := (if_pos hc).symm.trans hg
    refine rf_seg C [(.aload 0, 1), (.iconst 1, 1)] (pc' := 24) (S' := ([(0, .ref 0), (1, .int a1), (2, .int a2), (3, .int a3)], [.int 1, .ref 0], rf_MM w m0)) (by decide +kernel) rfl trivial ?_
    obtain ⟨y1, m1, hc1, hg⟩ := rf_b_some hg
    refine rf_callv C rf_fit0 j_X11_denied (ci := 11) (As := [.int 1]) (rest := []) mw_X11_denied (c_X11_denied hc1) (by decide) rfl (by decide) lk_11_88 rfl rfl (Nat.le_of_ble_eq_true rfl) (by decide +kernel) ?_
    show rf_V 4 (rf_sh w) K 0 0 27 ([(0, .ref 0), (1, .int a1), (2, .int a2), (3, .int a3)], [.int y1], rf_MM w m1)
    obtain ⟨q01, hg⟩ := rf_g_some hg
    obtain rfl := Option.some.inj hg
    exact rf_zret C hE (rf_01_of q01) (by decide +kernel)
  · replace hg := (if_neg hc).symm.trans hg
    refine rf_seg C [(.aload 0, 1), (.invokeinterface 11 2, 3), (.iload 2, 1)] (pc' := 16) (S' := ([(0, .ref 0), (1, .int a1), (2, .int a2), (3, .int a3)], [.int a2, .ref 26], rf_MM w m0)) (by decide +kernel) rfl trivial ?_
    obtain ⟨y2, m2, hc2, hg⟩ := rf_b_some hg
    refine rf_callv C rf_fit0 j_X3_isParty (ci := 3) (As := [.int a2]) (rest := []) mw_X3_isParty (c_X3_isParty hc2) (by decide) rfl (by decide) lk_11_170 rfl rfl (Nat.le_of_ble_eq_true rfl) (by decide +kernel) ?_
    show rf_V 4 (rf_sh w) K 0 0 19 ([(0, .ref 0), (1, .int a1), (2, .int a2), (3, .int a3)], [.int y2], rf_MM w m2)
    refine rf_if_ne C 9 28 (by decide +kernel) (fun hc => ?_) (fun hc => ?_)
    · replace hg := (if_neg hc).symm.trans hg
      obtain ⟨q3, hg⟩ := rf_g_some hg
      refine rf_seg C [(.aload 0, 1), (.invokeinterface 11 2, 3), (.invokeinterface 3 0, 3), (.iload 2, 1), (.baload, 1)] (pc' := 37) (S' := ([(0, .ref 0), (1, .int a1), (2, .int a2), (3, .int a3)], [.int (m2.1 27 (Int32.toNatClampNeg a2))], rf_MM w m2)) (by decide +kernel) rfl (rf_in_of q3) ?_
      refine rf_if_eq C 30 67 (by decide +kernel) (fun hc => ?_) (fun hc => ?_)
      · replace hg := (if_pos hc).symm.trans hg
        refine rf_seg C [(.aload 0, 1), (.iconst 5, 1)] (pc' := 69) (S' := ([(0, .ref 0), (1, .int a1), (2, .int a2), (3, .int a3)], [.int 5, .ref 0], rf_MM w m2)) (by decide +kernel) rfl trivial ?_
        obtain ⟨y4, m4, hc4, hg⟩ := rf_b_some hg
        refine rf_callv C rf_fit0 j_X11_denied (ci := 11) (As := [.int 5]) (rest := []) mw_X11_denied (c_X11_denied hc4) (by decide) rfl (by decide) lk_11_88 rfl rfl (Nat.le_of_ble_eq_true rfl) (by decide +kernel) ?_
        show rf_V 4 (rf_sh w) K 0 0 72 ([(0, .ref 0), (1, .int a1), (2, .int a2), (3, .int a3)], [.int y4], rf_MM w m4)
        obtain ⟨q01, hg⟩ := rf_g_some hg
        obtain rfl := Option.some.inj hg
        exact rf_zret C hE (rf_01_of q01) (by decide +kernel)
      · replace hg := (if_neg hc).symm.trans hg
        refine rf_seg C [(.aload 0, 1), (.invokeinterface 11 2, 3), (.iload 1, 1)] (pc' := 45) (S' := ([(0, .ref 0), (1, .int a1), (2, .int a2), (3, .int a3)], [.int a1, .ref 26], rf_MM w m2)) (by decide +kernel) rfl trivial ?_
        obtain ⟨y5, m5, hc5, hg⟩ := rf_b_some hg
        refine rf_callv C rf_fit0 j_X3_isSeen (ci := 3) (As := [.int a1]) (rest := []) mw_X3_isSeen (c_X3_isSeen hc5) (by decide) rfl (by decide) lk_11_200 rfl rfl (Nat.le_of_ble_eq_true rfl) (by decide +kernel) ?_
        show rf_V 4 (rf_sh w) K 0 0 48 ([(0, .ref 0), (1, .int a1), (2, .int a2), (3, .int a3)], [.int y5], rf_MM w m5)
        refine rf_if_eq C 19 67 (by decide +kernel) (fun hc => ?_) (fun hc => ?_)
        · replace hg := (if_pos hc).symm.trans hg
          refine rf_seg C [(.aload 0, 1), (.iconst 5, 1)] (pc' := 69) (S' := ([(0, .ref 0), (1, .int a1), (2, .int a2), (3, .int a3)], [.int 5, .ref 0], rf_MM w m5)) (by decide +kernel) rfl trivial ?_
          obtain ⟨y6, m6, hc6, hg⟩ := rf_b_some hg
          refine rf_callv C rf_fit0 j_X11_denied (ci := 11) (As := [.int 5]) (rest := []) mw_X11_denied (c_X11_denied hc6) (by decide) rfl (by decide) lk_11_88 rfl rfl (Nat.le_of_ble_eq_true rfl) (by decide +kernel) ?_
          show rf_V 4 (rf_sh w) K 0 0 72 ([(0, .ref 0), (1, .int a1), (2, .int a2), (3, .int a3)], [.int y6], rf_MM w m6)
          obtain ⟨q01, hg⟩ := rf_g_some hg
          obtain rfl := Option.some.inj hg
          exact rf_zret C hE (rf_01_of q01) (by decide +kernel)
        · replace hg := (if_neg hc).symm.trans hg
          refine rf_seg C [(.aload 0, 1), (.invokeinterface 11 2, 3), (.iload 1, 1), (.aload 0, 1), (.invokeinterface 11 10, 3)] (pc' := 60) (S' := ([(0, .ref 0), (1, .int a1), (2, .int a2), (3, .int a3)], [.int (m5.1 0 10), .int a1, .ref 26], rf_MM w m5)) (by decide +kernel) rfl trivial ?_
          obtain ⟨y7, m7, hc7, hg⟩ := rf_b_some hg
          refine rf_callv C rf_fit0 j_X3_isStruck (ci := 3) (As := [.int a1, .int (m5.1 0 10)]) (rest := []) mw_X3_isStruck (c_X3_isStruck hc7) (by decide) rfl (by decide) lk_11_203 rfl rfl (Nat.le_of_ble_eq_true rfl) (by decide +kernel) ?_
          show rf_V 4 (rf_sh w) K 0 0 63 ([(0, .ref 0), (1, .int a1), (2, .int a2), (3, .int a3)], [.int y7], rf_MM w m7)
          refine rf_seg C [(.iload 3, 1)] (pc' := 64) (S' := ([(0, .ref 0), (1, .int a1), (2, .int a2), (3, .int a3)], [.int a3, .int y7], rf_MM w m7)) (by decide +kernel) rfl trivial ?_
          refine rf_icmp_ne C 9 73 (by decide +kernel) (fun hc => ?_) (fun hc => ?_)
          · replace hg := (if_neg hc).symm.trans hg
            refine rf_seg C [(.aload 0, 1), (.invokeinterface 11 2, 3), (.iload 1, 1), (.aload 0, 1), (.invokeinterface 11 10, 3), (.iload 3, 1)] (pc' := 83) (S' := ([(0, .ref 0), (1, .int a1), (2, .int a2), (3, .int a3)], [.int a3, .int (m7.1 0 10), .int a1, .ref 26], rf_MM w m7)) (by decide +kernel) rfl trivial ?_
            obtain ⟨y8, m8, hc8, hg⟩ := rf_b_some hg
            refine rf_callv C rf_fit0 j_X3_addStrike (ci := 3) (As := [.int a1, .int (m7.1 0 10), .int a3]) (rest := []) mw_X3_addStrike (c_X3_addStrike hc8) (by decide) rfl (by decide) lk_11_206 rfl rfl (Nat.le_of_ble_eq_true rfl) (by decide +kernel) ?_
            show rf_V 4 (rf_sh w) K 0 0 86 ([(0, .ref 0), (1, .int a1), (2, .int a2), (3, .int a3)], [.int y8], rf_MM w m8)
            refine rf_if_eq C 10 96 (by decide +kernel) (fun hc => ?_) (fun hc => ?_)
            · replace hg := (if_pos hc).symm.trans hg
              refine rf_seg C [(.aload 0, 1), (.iconst 3, 1)] (pc' := 98) (S' := ([(0, .ref 0), (1, .int a1), (2, .int a2), (3, .int a3)], [.int 3, .ref 0], rf_MM w m8)) (by decide +kernel) rfl trivial ?_
              obtain ⟨y9, m9, hc9, hg⟩ := rf_b_some hg
              refine rf_callv C rf_fit0 j_X11_denied (ci := 11) (As := [.int 3]) (rest := []) mw_X11_denied (c_X11_denied hc9) (by decide) rfl (by decide) lk_11_88 rfl rfl (Nat.le_of_ble_eq_true rfl) (by decide +kernel) ?_
              show rf_V 4 (rf_sh w) K 0 0 101 ([(0, .ref 0), (1, .int a1), (2, .int a2), (3, .int a3)], [.int y9], rf_MM w m9)
              obtain ⟨q01, hg⟩ := rf_g_some hg
              obtain rfl := Option.some.inj hg
              exact rf_zret C hE (rf_01_of q01) (by decide +kernel)
            · replace hg := (if_neg hc).symm.trans hg
              refine rf_seg C [(.aload 0, 1)] (pc' := 90) (S' := ([(0, .ref 0), (1, .int a1), (2, .int a2), (3, .int a3)], [.ref 0], rf_MM w m8)) (by decide +kernel) rfl trivial ?_
              obtain ⟨y10, m10, hc10, hg⟩ := rf_b_some hg
              refine rf_callv C rf_fit0 j_X11_granted (ci := 11) (As := []) (rest := []) mw_X11_granted (c_X11_granted hc10) (by decide) rfl (by decide) lk_11_101 rfl rfl (Nat.le_of_ble_eq_true rfl) (by decide +kernel) ?_
              show rf_V 4 (rf_sh w) K 0 0 93 ([(0, .ref 0), (1, .int a1), (2, .int a2), (3, .int a3)], [.int y10], rf_MM w m10)
              refine rf_goto C 8 101 (by decide +kernel) ?_
              obtain ⟨q01, hg⟩ := rf_g_some hg
              obtain rfl := Option.some.inj hg
              exact rf_zret C hE (rf_01_of q01) (by decide +kernel)
          · replace hg := (if_pos hc).symm.trans hg
            refine rf_seg C [(.aload 0, 1), (.iconst 5, 1)] (pc' := 69) (S' := ([(0, .ref 0), (1, .int a1), (2, .int a2), (3, .int a3)], [.int 5, .ref 0], rf_MM w m7)) (by decide +kernel) rfl trivial ?_
            obtain ⟨y11, m11, hc11, hg⟩ := rf_b_some hg
            refine rf_callv C rf_fit0 j_X11_denied (ci := 11) (As := [.int 5]) (rest := []) mw_X11_denied (c_X11_denied hc11) (by decide) rfl (by decide) lk_11_88 rfl rfl (Nat.le_of_ble_eq_true rfl) (by decide +kernel) ?_
            show rf_V 4 (rf_sh w) K 0 0 72 ([(0, .ref 0), (1, .int a1), (2, .int a2), (3, .int a3)], [.int y11], rf_MM w m11)
            obtain ⟨q01, hg⟩ := rf_g_some hg
            obtain rfl := Option.some.inj hg
            exact rf_zret C hE (rf_01_of q01) (by decide +kernel)
    · replace hg := (if_pos hc).symm.trans hg
      refine rf_seg C [(.aload 0, 1), (.iconst 1, 1)] (pc' := 24) (S' := ([(0, .ref 0), (1, .int a1), (2, .int a2), (3, .int a3)], [.int 1, .ref 0], rf_MM w m2)) (by decide +kernel) rfl trivial ?_
      obtain ⟨y12, m12, hc12, hg⟩ := rf_b_some hg
      refine rf_callv C rf_fit0 j_X11_denied (ci := 11) (As := [.int 1]) (rest := []) mw_X11_denied (c_X11_denied hc12) (by decide) rfl (by decide) lk_11_88 rfl rfl (Nat.le_of_ble_eq_true rfl) (by decide +kernel) ?_
      show rf_V 4 (rf_sh w) K 0 0 27 ([(0, .ref 0), (1, .int a1), (2, .int a2), (3, .int a3)], [.int y12], rf_MM w m12)
      obtain ⟨q01, hg⟩ := rf_g_some hg
      obtain rfl := Option.some.inj hg
      exact rf_zret C hE (rf_01_of q01) (by decide +kernel)
-- X11_angleOf
abbrev j_X11_angleOf : rf_J := (11, yX11_angleOf, cX11_angleOf, 3, (some .int))
theorem mw_X11_angleOf : rf_mv j_X11_angleOf (rf_R 11) 2 := ⟨⟨rf_mem 31 (by decide +kernel), rf_mem 31 (by decide +kernel), rf_mem 0 (by decide +kernel), rf_mem 31 (by decide +kernel)⟩, by decide +kernel, by decide⟩
def g_X11_angleOf (w : rf_w) (m : rf_m) (a1 : Int32) (a2 : Int32) : Option (Int32 × rf_m) := rf_b (g_X3_isAngle w m a1) fun y0 m0 => (if y0 = 0 then some ((-1), m0) else rf_bv (g_X3_freshen w m0 a1) fun m1 => rf_b (g_X11_isWithin w m1 a2 0 7) fun y2 m2 => (if y2 = 0 then (if a2 = 8 then rf_b (g_X3_weightOf w m2 a1 (m2.1 0 10)) fun y3 m3 => some (y3, m3) else if a2 = 9 then rf_b (g_X3_isAgain w m2 a1 (m2.1 0 10)) fun y4 m4 => (if y4 = 0 then some (0, m4) else some (1, m4)) else if a2 = 10 then rf_g (rf_in a1 80) (some (m2.1 28 (Int32.toNatClampNeg a1), m2)) else some ((-1), m2)) else rf_b (g_X3_tallyOf w m2 a1 a2) fun y6 m6 => some (y6, m6)))
theorem c_X11_angleOf {w : rf_w} {m : rf_m} {a1 : Int32} {a2 : Int32} {r : Int32 × rf_m} (hg : g_X11_angleOf w m a1 a2 = some r) : rf_Con j_X11_angleOf 8 (rf_sh w) [.ref 0, .int a1, .int a2] (rf_MM w m) (some (.int r.1)) (rf_MM w r.2) := by
  refine rf_con j_X11_angleOf 8 ⟨by decide +kernel, rfl, Nat.le_of_ble_eq_true rfl⟩ (fun K C hE => ?_)
  unfold g_X11_angleOf at hg
  show rf_V 3 (rf_sh w) K 0 0 0 ([(0, .ref 0), (1, .int a1), (2, .int a2)], [], rf_MM w m)
  refine rf_seg C [(.aload 0, 1), (.invokeinterface 11 2, 3), (.iload 1, 1)] (pc' := 5) (S' := ([(0, .ref 0), (1, .int a1), (2, .int a2)], [.int a1, .ref 26], rf_MM w m)) (by decide +kernel) rfl trivial ?_
  obtain ⟨y0, m0, hc0, hg⟩ := rf_b_some hg
  refine rf_callv C rf_fit0 j_X3_isAngle (ci := 3) (As := [.int a1]) (rest := []) mw_X3_isAngle (c_X3_isAngle hc0) (by decide) rfl (by decide) lk_11_167 rfl rfl (Nat.le_of_ble_eq_true rfl) (by decide +kernel) ?_
  show rf_V 3 (rf_sh w) K 0 0 8 ([(0, .ref 0), (1, .int a1), (2, .int a2)], [.int y0], rf_MM w m0)
  refine rf_if_ne C 5 13 (by decide +kernel) (fun hc => ?_) (fun hc => ?_)
  · replace hg := (if_neg hc).symm.trans hg
    refine rf_seg C [(.aload 0, 1), (.invokeinterface 11 2, 3), (.iload 1, 1)] (pc' := 18) (S' := ([(0, .ref 0), (1, .int a1), (2, .int a2)], [.int a1, .ref 26], rf_MM w m0)) (by decide +kernel) rfl trivial ?_
    obtain ⟨m1, hc1, hg⟩ := rf_bv_some hg
    refine rf_callv C rf_fit0 j_X3_freshen (ci := 3) (As := [.int a1]) (rest := []) mw_X3_freshen (c_X3_freshen hc1) (by decide) rfl (by decide) lk_11_193 rfl rfl (Nat.le_of_ble_eq_true rfl) (by decide +kernel) ?_
    show rf_V 3 (rf_sh w) K 0 0 21 ([(0, .ref 0), (1, .int a1), (2, .int a2)], [], rf_MM w m1)
    refine rf_seg C [(.iload 2, 1), (.iconst 0, 1), (.iconst 7, 2)] (pc' := 25) (S' := ([(0, .ref 0), (1, .int a1), (2, .int a2)], [.int 7, .int 0, .int a2], rf_MM w m1)) (by decide +kernel) rfl trivial ?_
    obtain ⟨y2, m2, hc2, hg⟩ := rf_b_some hg
    refine rf_calls C rf_fit0 j_X11_isWithin (As := [.int a2, .int 0, .int 7]) (rest := []) mw_X11_isWithin (c_X11_isWithin hc2) (by decide) lk_11_91 rfl rfl (Nat.le_of_ble_eq_true rfl) (by decide +kernel) ?_
    show rf_V 3 (rf_sh w) K 0 0 28 ([(0, .ref 0), (1, .int a1), (2, .int a2)], [.int y2], rf_MM w m2)
    refine rf_if_eq C 13 41 (by decide +kernel) (fun hc => ?_) (fun hc => ?_)
    · replace hg := (if_pos hc).symm.trans hg
      refine rf_seg C [(.iload 2, 1)] (pc' := 42) (S' := ([(0, .ref 0), (1, .int a1), (2, .int a2)], [.int a2], rf_MM w m2)) (by decide +kernel) rfl trivial ?_
      by_cases ht8 : a2 = 8
      · replace hg := (if_pos ht8).symm.trans hg
        refine rf_tabc C ht8 68 (by decide +kernel) ?_
        refine rf_seg C [(.aload 0, 1), (.invokeinterface 11 2, 3), (.iload 1, 1), (.aload 0, 1), (.invokeinterface 11 10, 3)] (pc' := 77) (S' := ([(0, .ref 0), (1, .int a1), (2, .int a2)], [.int (m2.1 0 10), .int a1, .ref 26], rf_MM w m2)) (by decide +kernel) rfl trivial ?_
        obtain ⟨y3, m3, hc3, hg⟩ := rf_b_some hg
        refine rf_callv C rf_fit0 j_X3_weightOf (ci := 3) (As := [.int a1, .int (m2.1 0 10)]) (rest := []) mw_X3_weightOf (c_X3_weightOf hc3) (by decide) rfl (by decide) lk_11_213 rfl rfl (Nat.le_of_ble_eq_true rfl) (by decide +kernel) ?_
        show rf_V 3 (rf_sh w) K 0 0 80 ([(0, .ref 0), (1, .int a1), (2, .int a2)], [.int y3], rf_MM w m3)
        obtain rfl := Option.some.inj hg
        exact rf_iret C hE (by decide +kernel)
      · replace hg := (if_neg ht8).symm.trans hg
        by_cases ht9 : a2 = 9
        · replace hg := (if_pos ht9).symm.trans hg
          refine rf_tabc C ht9 81 (by decide +kernel) ?_
          refine rf_seg C [(.aload 0, 1), (.invokeinterface 11 2, 3), (.iload 1, 1), (.aload 0, 1), (.invokeinterface 11 10, 3)] (pc' := 90) (S' := ([(0, .ref 0), (1, .int a1), (2, .int a2)], [.int (m2.1 0 10), .int a1, .ref 26], rf_MM w m2)) (by decide +kernel) rfl trivial ?_
          obtain ⟨y4, m4, hc4, hg⟩ := rf_b_some hg
          refine rf_callv C rf_fit0 j_X3_isAgain (ci := 3) (As := [.int a1, .int (m2.1 0 10)]) (rest := []) mw_X3_isAgain (c_X3_isAgain hc4) (by decide) rfl (by decide) lk_11_216 rfl rfl (Nat.le_of_ble_eq_true rfl) (by decide +kernel) ?_
          show rf_V 3 (rf_sh w) K 0 0 93 ([(0, .ref 0), (1, .int a1), (2, .int a2)], [.int y4], rf_MM w m4)
          refine rf_if_eq C 7 100 (by decide +kernel) (fun hc => ?_) (fun hc => ?_)
          · replace hg := (if_pos hc).symm.trans hg
            refine rf_seg C [(.iconst 0, 1)] (pc' := 101) (S' := ([(0, .ref 0), (1, .int a1), (2, .int a2)], [.int 0], rf_MM w m4)) (by decide +kernel) rfl trivial ?_
            obtain rfl := Option.some.inj hg
            exact rf_iret C hE (by decide +kernel)
          · replace hg := (if_neg hc).symm.trans hg
            refine rf_seg C [(.iconst 1, 1)] (pc' := 97) (S' := ([(0, .ref 0), (1, .int a1), (2, .int a2)], [.int 1], rf_MM w m4)) (by decide +kernel) rfl trivial ?_
            refine rf_goto C 4 101 (by decide +kernel) ?_
            obtain rfl := Option.some.inj hg
            exact rf_iret C hE (by decide +kernel)
        · replace hg := (if_neg ht9).symm.trans hg
          by_cases ht10 : a2 = 10
          · replace hg := (if_pos ht10).symm.trans hg
            refine rf_tabc C ht10 102 (by decide +kernel) ?_
            obtain ⟨q5, hg⟩ := rf_g_some hg
            refine rf_seg C [(.aload 0, 1), (.invokeinterface 11 2, 3), (.invokeinterface 3 1, 3), (.iload 1, 1), (.iaload, 1)] (pc' := 111) (S' := ([(0, .ref 0), (1, .int a1), (2, .int a2)], [.int (m2.1 28 (Int32.toNatClampNeg a1))], rf_MM w m2)) (by decide +kernel) rfl (rf_in_of q5) ?_
            obtain rfl := Option.some.inj hg
            exact rf_iret C hE (by decide +kernel)
          · replace hg := (if_neg ht10).symm.trans hg
            refine rf_tabd C 8 10 112 (by decide +kernel) (by have t0 : (a2).toInt ≠ 8 := rf_ti ht8; have t1 : (a2).toInt ≠ 9 := rf_ti ht9; have t2 : (a2).toInt ≠ 10 := rf_ti ht10; omega) ?_
            refine rf_seg C [(.iconst (-1), 1)] (pc' := 113) (S' := ([(0, .ref 0), (1, .int a1), (2, .int a2)], [.int ((-1))], rf_MM w m2)) (by decide +kernel) rfl trivial ?_
            obtain rfl := Option.some.inj hg
            exact rf_iret C hE (by decide +kernel)
    · replace hg := (if_neg hc).symm.trans hg
      refine rf_seg C [(.aload 0, 1), (.invokeinterface 11 2, 3), (.iload 1, 1), (.iload 2, 1)] (pc' := 37) (S' := ([(0, .ref 0), (1, .int a1), (2, .int a2)], [.int a2, .int a1, .ref 26], rf_MM w m2)) (by decide +kernel) rfl trivial ?_
      obtain ⟨y6, m6, hc6, hg⟩ := rf_b_some hg
      refine rf_callv C rf_fit0 j_X3_tallyOf (ci := 3) (As := [.int a1, .int a2]) (rest := []) mw_X3_tallyOf (c_X3_tallyOf hc6) (by decide) rfl (by decide) lk_11_210 rfl rfl (Nat.le_of_ble_eq_true rfl) (by decide +kernel) ?_
      show rf_V 3 (rf_sh w) K 0 0 40 ([(0, .ref 0), (1, .int a1), (2, .int a2)], [.int y6], rf_MM w m6)
      obtain rfl := Option.some.inj hg
      exact rf_iret C hE (by decide +kernel)
  · replace hg := (if_pos hc).symm.trans hg
    refine rf_seg C [(.iconst (-1), 1)] (pc' := 12) (S' := ([(0, .ref 0), (1, .int a1), (2, .int a2)], [.int ((-1))], rf_MM w m0)) (by decide +kernel) rfl trivial ?_
    obtain rfl := Option.some.inj hg
    exact rf_iret C hE (by decide +kernel)
-- X11_known
abbrev j_X11_known : rf_J := (11, yX11_known, cX11_known, 4, (some .int))
theorem mw_X11_known : rf_mv j_X11_known (rf_R 11) 2 := ⟨⟨rf_mem 33 (by decide +kernel), rf_mem 33 (by decide +kernel), rf_mem 0 (by decide +kernel), rf_mem 33 (by decide +kernel)⟩, by decide +kernel, by decide⟩
def g_X11_known (w : rf_w) (m : rf_m) (a1 : Int32) (a2 : Int32) : Option (Int32 × rf_m) := rf_b (g_X3_isAngle w m a1) fun y0 m0 => (if y0 = 0 then some ((-1), m0) else rf_b (g_X11_isWithin w m0 a2 0 (m0.1 0 10)) fun y1 m1 => (if y1 = 0 then some ((-1), m1) else rf_bv (g_X3_recount w m1 a1 a2) fun m2 => rf_g (rf_in a1 80) (rf_vi (m2.1 31 (Int32.toNatClampNeg a1)) fun x4 => rf_bv (g_X3_forget w m2 a1) fun m5 => some (x4, m5))))
theorem c_X11_known {w : rf_w} {m : rf_m} {a1 : Int32} {a2 : Int32} {r : Int32 × rf_m} (hg : g_X11_known w m a1 a2 = some r) : rf_Con j_X11_known 7 (rf_sh w) [.ref 0, .int a1, .int a2] (rf_MM w m) (some (.int r.1)) (rf_MM w r.2) := by
  refine rf_con j_X11_known 7 ⟨by decide +kernel, rfl, Nat.le_of_ble_eq_true rfl⟩ (fun K C hE => ?_)
  unfold g_X11_known at hg
  show rf_V 4 (rf_sh w) K 0 0 0 ([(0, .ref 0), (1, .int a1), (2, .int a2)], [], rf_MM w m)
  refine rf_seg C [(.aload 0, 1), (.invokeinterface 11 2, 3), (.iload 1, 1)] (pc' := 5) (S' := ([(0, .ref 0), (1, .int a1), (2, .int a2)], [.int a1, .ref 26], rf_MM w m)) (by decide +kernel) rfl trivial ?_
  obtain ⟨y0, m0, hc0, hg⟩ := rf_b_some hg
  refine rf_callv C rf_fit0 j_X3_isAngle (ci := 3) (As := [.int a1]) (rest := []) mw_X3_isAngle (c_X3_isAngle hc0) (by decide) rfl (by decide) lk_11_167 rfl rfl (Nat.le_of_ble_eq_true rfl) (by decide +kernel) ?_
  show rf_V 4 (rf_sh w) K 0 0 8 ([(0, .ref 0), (1, .int a1), (2, .int a2)], [.int y0], rf_MM w m0)
  refine rf_if_eq C 15 23 (by decide +kernel) (fun hc => ?_) (fun hc => ?_)
  · replace hg := (if_pos hc).symm.trans hg
    refine rf_seg C [(.iconst (-1), 1)] (pc' := 24) (S' := ([(0, .ref 0), (1, .int a1), (2, .int a2)], [.int ((-1))], rf_MM w m0)) (by decide +kernel) rfl trivial ?_
    obtain rfl := Option.some.inj hg
    exact rf_iret C hE (by decide +kernel)
  · replace hg := (if_neg hc).symm.trans hg
    refine rf_seg C [(.iload 2, 1), (.iconst 0, 1), (.aload 0, 1), (.invokeinterface 11 10, 3)] (pc' := 17) (S' := ([(0, .ref 0), (1, .int a1), (2, .int a2)], [.int (m0.1 0 10), .int 0, .int a2], rf_MM w m0)) (by decide +kernel) rfl trivial ?_
    obtain ⟨y1, m1, hc1, hg⟩ := rf_b_some hg
    refine rf_calls C rf_fit0 j_X11_isWithin (As := [.int a2, .int 0, .int (m0.1 0 10)]) (rest := []) mw_X11_isWithin (c_X11_isWithin hc1) (by decide) lk_11_91 rfl rfl (Nat.le_of_ble_eq_true rfl) (by decide +kernel) ?_
    show rf_V 4 (rf_sh w) K 0 0 20 ([(0, .ref 0), (1, .int a1), (2, .int a2)], [.int y1], rf_MM w m1)
    refine rf_if_ne C 5 25 (by decide +kernel) (fun hc => ?_) (fun hc => ?_)
    · replace hg := (if_neg hc).symm.trans hg
      refine rf_seg C [(.aload 0, 1), (.invokeinterface 11 2, 3), (.iload 1, 1), (.iload 2, 1)] (pc' := 31) (S' := ([(0, .ref 0), (1, .int a1), (2, .int a2)], [.int a2, .int a1, .ref 26], rf_MM w m1)) (by decide +kernel) rfl trivial ?_
      obtain ⟨m2, hc2, hg⟩ := rf_bv_some hg
      refine rf_callv C rf_fit0 j_X3_recount (ci := 3) (As := [.int a1, .int a2]) (rest := []) mw_X3_recount (c_X3_recount hc2) (by decide) rfl (by decide) lk_11_222 rfl rfl (Nat.le_of_ble_eq_true rfl) (by decide +kernel) ?_
      show rf_V 4 (rf_sh w) K 0 0 34 ([(0, .ref 0), (1, .int a1), (2, .int a2)], [], rf_MM w m2)
      obtain ⟨q3, hg⟩ := rf_g_some hg
      refine rf_seg C [(.aload 0, 1), (.invokeinterface 11 2, 3), (.invokeinterface 3 4, 3), (.iload 1, 1), (.iaload, 1)] (pc' := 43) (S' := ([(0, .ref 0), (1, .int a1), (2, .int a2)], [.int (m2.1 31 (Int32.toNatClampNeg a1))], rf_MM w m2)) (by decide +kernel) rfl (rf_in_of q3) ?_
      obtain ⟨x4, hx4, hg⟩ := rf_vi_some hg
      refine rf_vi_top hx4 ?_
      refine rf_seg C [(.istore 3, 1), (.aload 0, 1), (.invokeinterface 11 2, 3), (.iload 1, 1)] (pc' := 49) (S' := ([(3, .int x4), (0, .ref 0), (1, .int a1), (2, .int a2)], [.int a1, .ref 26], rf_MM w m2)) (by decide +kernel) rfl trivial ?_
      obtain ⟨m5, hc5, hg⟩ := rf_bv_some hg
      refine rf_callv C rf_fit0 j_X3_forget (ci := 3) (As := [.int a1]) (rest := []) mw_X3_forget (c_X3_forget hc5) (by decide) rfl (by decide) lk_11_229 rfl rfl (Nat.le_of_ble_eq_true rfl) (by decide +kernel) ?_
      show rf_V 4 (rf_sh w) K 0 0 52 ([(3, .int x4), (0, .ref 0), (1, .int a1), (2, .int a2)], [], rf_MM w m5)
      refine rf_seg C [(.iload 3, 1)] (pc' := 53) (S' := ([(3, .int x4), (0, .ref 0), (1, .int a1), (2, .int a2)], [.int x4], rf_MM w m5)) (by decide +kernel) rfl trivial ?_
      obtain rfl := Option.some.inj hg
      exact rf_iret C hE (by decide +kernel)
    · replace hg := (if_pos hc).symm.trans hg
      refine rf_seg C [(.iconst (-1), 1)] (pc' := 24) (S' := ([(0, .ref 0), (1, .int a1), (2, .int a2)], [.int ((-1))], rf_MM w m1)) (by decide +kernel) rfl trivial ?_
      obtain rfl := Option.some.inj hg
      exact rf_iret C hE (by decide +kernel)
-- X11_feed
abbrev j_X11_feed : rf_J := (11, yX11_feed, cX11_feed, 6, (some .int))
theorem mw_X11_feed : rf_mv j_X11_feed (rf_R 11) 5 := ⟨⟨rf_mem 35 (by decide +kernel), rf_mem 35 (by decide +kernel), rf_mem 0 (by decide +kernel), rf_mem 35 (by decide +kernel)⟩, by decide +kernel, by decide⟩
def g_X11_feed (w : rf_w) (m : rf_m) (a1 : Int32) (a2 : Int32) (a3 : Int32) (a4 : Int32) (a5 : Int32) : Option (Int32 × rf_m) := rf_b (g_X9_takeIn w m a1 a2 a3 a4 a5) fun y0 m0 => some (y0, m0)
theorem c_X11_feed {w : rf_w} {m : rf_m} {a1 : Int32} {a2 : Int32} {a3 : Int32} {a4 : Int32} {a5 : Int32} {r : Int32 × rf_m} (hg : g_X11_feed w m a1 a2 a3 a4 a5 = some r) : rf_Con j_X11_feed 3 (rf_sh w) [.ref 0, .int a1, .int a2, .int a3, .int a4, .int a5] (rf_MM w m) (some (.int r.1)) (rf_MM w r.2) := by
  refine rf_con j_X11_feed 3 ⟨by decide +kernel, rfl, Nat.le_of_ble_eq_true rfl⟩ (fun K C hE => ?_)
  unfold g_X11_feed at hg
  show rf_V 6 (rf_sh w) K 0 0 0 ([(0, .ref 0), (1, .int a1), (2, .int a2), (3, .int a3), (4, .int a4), (5, .int a5)], [], rf_MM w m)
  refine rf_seg C [(.aload 0, 1), (.invokeinterface 11 1, 3), (.iload 1, 1), (.iload 2, 1), (.iload 3, 1), (.iload 4, 2), (.iload 5, 2)] (pc' := 11) (S' := ([(0, .ref 0), (1, .int a1), (2, .int a2), (3, .int a3), (4, .int a4), (5, .int a5)], [.int a5, .int a4, .int a3, .int a2, .int a1, .ref 13], rf_MM w m)) (by decide +kernel) rfl trivial ?_
  obtain ⟨y0, m0, hc0, hg⟩ := rf_b_some hg
  refine rf_callv C rf_fit0 j_X9_takeIn (ci := 9) (As := [.int a1, .int a2, .int a3, .int a4, .int a5]) (rest := []) mw_X9_takeIn (c_X9_takeIn hc0) (by decide) rfl (by decide) lk_11_238 rfl rfl (Nat.le_of_ble_eq_true rfl) (by decide +kernel) ?_
  show rf_V 6 (rf_sh w) K 0 0 14 ([(0, .ref 0), (1, .int a1), (2, .int a2), (3, .int a3), (4, .int a4), (5, .int a5)], [.int y0], rf_MM w m0)
  obtain rfl := Option.some.inj hg
  exact rf_iret C hE (by decide +kernel)
-- X11_isTime
abbrev j_X11_isTime : rf_J := (11, yX11_isTime, cX11_isTime, 2, (some .boolean))
theorem mw_X11_isTime : rf_ms j_X11_isTime 2 := ⟨⟨rf_mem 36 (by decide +kernel), rf_mem 0 (by decide +kernel), rf_mem 36 (by decide +kernel)⟩, by decide +kernel, by decide⟩
def g_X11_isTime (w : rf_w) (m : rf_m) (a0 : Int32) (a1 : Int32) : Option (Int32 × rf_m) := rf_b (g_X11_isDay w m a0) fun y0 m0 => (if y0 = 0 then some (0, m0) else rf_b (g_X11_isDay w m0 a1) fun y1 m1 => (if y1 = 0 then some (0, m1) else (if a1 < a0 then some (0, m1) else some (1, m1))))
theorem c_X11_isTime {w : rf_w} {m : rf_m} {a0 : Int32} {a1 : Int32} {r : Int32 × rf_m} (hg : g_X11_isTime w m a0 a1 = some r) : rf_Con j_X11_isTime 3 (rf_sh w) [.int a0, .int a1] (rf_MM w m) (some (.int r.1)) (rf_MM w r.2) := by
  refine rf_con j_X11_isTime 3 ⟨by decide +kernel, rfl, Nat.le_of_ble_eq_true rfl⟩ (fun K C hE => ?_)
  unfold g_X11_isTime at hg
  show rf_V 2 (rf_sh w) K 0 0 0 ([(0, .int a0), (1, .int a1)], [], rf_MM w m)
  refine rf_seg C [(.iload 0, 1)] (pc' := 1) (S' := ([(0, .int a0), (1, .int a1)], [.int a0], rf_MM w m)) (by decide +kernel) rfl trivial ?_
  obtain ⟨y0, m0, hc0, hg⟩ := rf_b_some hg
  refine rf_calls C rf_fit0 j_X11_isDay (As := [.int a0]) (rest := []) mw_X11_isDay (c_X11_isDay hc0) (by decide) lk_11_136 rfl rfl (Nat.le_of_ble_eq_true rfl) (by decide +kernel) ?_
  show rf_V 2 (rf_sh w) K 0 0 4 ([(0, .int a0), (1, .int a1)], [.int y0], rf_MM w m0)
  refine rf_if_eq C 19 23 (by decide +kernel) (fun hc => ?_) (fun hc => ?_)
  · replace hg := (if_pos hc).symm.trans hg
    refine rf_seg C [(.iconst 0, 1)] (pc' := 24) (S' := ([(0, .int a0), (1, .int a1)], [.int 0], rf_MM w m0)) (by decide +kernel) rfl trivial ?_
    obtain rfl := Option.some.inj hg
    exact rf_zret C hE (by decide) (by decide +kernel)
  · replace hg := (if_neg hc).symm.trans hg
    refine rf_seg C [(.iload 1, 1)] (pc' := 8) (S' := ([(0, .int a0), (1, .int a1)], [.int a1], rf_MM w m0)) (by decide +kernel) rfl trivial ?_
    obtain ⟨y1, m1, hc1, hg⟩ := rf_b_some hg
    refine rf_calls C rf_fit0 j_X11_isDay (As := [.int a1]) (rest := []) mw_X11_isDay (c_X11_isDay hc1) (by decide) lk_11_136 rfl rfl (Nat.le_of_ble_eq_true rfl) (by decide +kernel) ?_
    show rf_V 2 (rf_sh w) K 0 0 11 ([(0, .int a0), (1, .int a1)], [.int y1], rf_MM w m1)
    refine rf_if_eq C 12 23 (by decide +kernel) (fun hc => ?_) (fun hc => ?_)
    · replace hg := (if_pos hc).symm.trans hg
      refine rf_seg C [(.iconst 0, 1)] (pc' := 24) (S' := ([(0, .int a0), (1, .int a1)], [.int 0], rf_MM w m1)) (by decide +kernel) rfl trivial ?_
      obtain rfl := Option.some.inj hg
      exact rf_zret C hE (by decide) (by decide +kernel)
    · replace hg := (if_neg hc).symm.trans hg
      refine rf_seg C [(.iload 0, 1), (.iload 1, 1)] (pc' := 16) (S' := ([(0, .int a0), (1, .int a1)], [.int a1, .int a0], rf_MM w m1)) (by decide +kernel) rfl trivial ?_
      refine rf_icmp_gt C 7 23 (by decide +kernel) (fun hc => ?_) (fun hc => ?_)
      · replace hg := (if_pos hc).symm.trans hg
        refine rf_seg C [(.iconst 0, 1)] (pc' := 24) (S' := ([(0, .int a0), (1, .int a1)], [.int 0], rf_MM w m1)) (by decide +kernel) rfl trivial ?_
        obtain rfl := Option.some.inj hg
        exact rf_zret C hE (by decide) (by decide +kernel)
      · replace hg := (if_neg hc).symm.trans hg
        refine rf_seg C [(.iconst 1, 1)] (pc' := 20) (S' := ([(0, .int a0), (1, .int a1)], [.int 1], rf_MM w m1)) (by decide +kernel) rfl trivial ?_
        refine rf_goto C 4 24 (by decide +kernel) ?_
        obtain rfl := Option.some.inj hg
        exact rf_zret C hE (by decide) (by decide +kernel)
-- X11_fault
abbrev j_X11_fault : rf_J := (11, yX11_fault, cX11_fault, 1, (some .int))
theorem mw_X11_fault : rf_mv j_X11_fault (rf_R 11) 0 := ⟨⟨rf_mem 50 (by decide +kernel), rf_mem 50 (by decide +kernel), rf_mem 0 (by decide +kernel), rf_mem 50 (by decide +kernel)⟩, by decide +kernel, by decide⟩
def g_X11_fault (w : rf_w) (m : rf_m) : Option (Int32 × rf_m) := some (m.1 0 12, m)
theorem c_X11_fault {w : rf_w} {m : rf_m} {r : Int32 × rf_m} (hg : g_X11_fault w m = some r) : rf_Con j_X11_fault 1 (rf_sh w) [.ref 0] (rf_MM w m) (some (.int r.1)) (rf_MM w r.2) := by
  refine rf_con j_X11_fault 1 ⟨by decide +kernel, rfl, Nat.le_of_ble_eq_true rfl⟩ (fun K C hE => ?_)
  unfold g_X11_fault at hg
  show rf_V 1 (rf_sh w) K 0 0 0 ([(0, .ref 0)], [], rf_MM w m)
  refine rf_seg C [(.aload 0, 1), (.invokeinterface 11 12, 3)] (pc' := 4) (S' := ([(0, .ref 0)], [.int (m.1 0 12)], rf_MM w m)) (by decide +kernel) rfl trivial ?_
  obtain rfl := Option.some.inj hg
  exact rf_iret C hE (by decide +kernel)
-- X11_where
abbrev j_X11_where : rf_J := (11, yX11_where, cX11_where, 1, (some .int))
theorem mw_X11_where : rf_mv j_X11_where (rf_R 11) 0 := ⟨⟨rf_mem 50 (by decide +kernel), rf_mem 50 (by decide +kernel), rf_mem 0 (by decide +kernel), rf_mem 51 (by decide +kernel)⟩, by decide +kernel, by decide⟩
def g_X11_where (w : rf_w) (m : rf_m) : Option (Int32 × rf_m) := (if (m.1 0 11) = 4 then some (m.1 0 13, m) else some ((-1), m))
theorem c_X11_where {w : rf_w} {m : rf_m} {r : Int32 × rf_m} (hg : g_X11_where w m = some r) : rf_Con j_X11_where 1 (rf_sh w) [.ref 0] (rf_MM w m) (some (.int r.1)) (rf_MM w r.2) := by
  refine rf_con j_X11_where 1 ⟨by decide +kernel, rfl, Nat.le_of_ble_eq_true rfl⟩ (fun K C hE => ?_)
  unfold g_X11_where at hg
  show rf_V 1 (rf_sh w) K 0 0 0 ([(0, .ref 0)], [], rf_MM w m)
  refine rf_seg C [(.aload 0, 1), (.invokeinterface 11 11, 3), (.iconst 4, 1)] (pc' := 5) (S' := ([(0, .ref 0)], [.int 4, .int (m.1 0 11)], rf_MM w m)) (by decide +kernel) rfl trivial ?_
  refine rf_icmp_ne C 10 15 (by decide +kernel) (fun hc => ?_) (fun hc => ?_)
  · replace hg := (if_neg hc).symm.trans hg
    refine rf_seg C [(.iconst (-1), 1)] (pc' := 16) (S' := ([(0, .ref 0)], [.int ((-1))], rf_MM w m)) (by decide +kernel) rfl trivial ?_
    obtain rfl := Option.some.inj hg
    exact rf_iret C hE (by decide +kernel)
  · replace hg := (if_pos hc).symm.trans hg
    refine rf_seg C [(.aload 0, 1), (.invokeinterface 11 13, 3)] (pc' := 12) (S' := ([(0, .ref 0)], [.int (m.1 0 13)], rf_MM w m)) (by decide +kernel) rfl trivial ?_
    refine rf_goto C 4 16 (by decide +kernel) ?_
    obtain rfl := Option.some.inj hg
    exact rf_iret C hE (by decide +kernel)
-- X11_force
abbrev j_X11_force : rf_J := (11, yX11_force, cX11_force, 4, (some .boolean))
theorem mw_X11_force : rf_mv j_X11_force (rf_R 11) 3 := ⟨⟨rf_mem 51 (by decide +kernel), rf_mem 51 (by decide +kernel), rf_mem 0 (by decide +kernel), rf_mem 51 (by decide +kernel)⟩, by decide +kernel, by decide⟩
def g_X11_force (w : rf_w) (m : rf_m) (a1 : Int32) (a2 : Int32) (a3 : Int32) : Option (Int32 × rf_m) := rf_b (g_X11_isWithin w m a1 0 ((m.1 13 3) - 1)) fun y0 m0 => (if y0 = 0 then rf_b (g_X11_denied w m0 1) fun y8 m8 => rf_g (rf_01 y8) (some (y8, m8)) else rf_b (g_X11_isTime w m0 a2 a3) fun y1 m1 => (if y1 = 0 then rf_b (g_X11_denied w m1 2) fun y7 m7 => rf_g (rf_01 y7) (some (y7, m7)) else rf_bv (g_X9_putInForce w m1 a1 a2 a3) fun m2 => rf_b (g_X9_isStriking w m2 a1) fun y3 m3 => (if y3 = 0 then rf_b (g_X11_granted w m3) fun y4 m4 => rf_g (rf_01 y4) (some (y4, m4)) else rf_bv (g_X3_forgetAll w m3) fun m5 => rf_b (g_X11_granted w m5) fun y6 m6 => rf_g (rf_01 y6) (some (y6, m6)))))
theorem c_X11_force {w : rf_w} {m : rf_m} {a1 : Int32} {a2 : Int32} {a3 : Int32} {r : Int32 × rf_m} (hg : g_X11_force w m a1 a2 a3 = some r) : rf_Con j_X11_force 4 (rf_sh w) [.ref 0, .int a1, .int a2, .int a3] (rf_MM w m) (some (.int r.1)) (rf_MM w r.2) := by
  refine rf_con j_X11_force 4 ⟨by decide +kernel, rfl, Nat.le_of_ble_eq_true rfl⟩ (fun K C hE => ?_)
  unfold g_X11_force at hg
  show rf_V 4 (rf_sh w) K 0 0 0 ([(0, .ref 0), (1, .int a1), (2, .int a2), (3, .int a3)], [], rf_MM w m)
  refine rf_seg C [(.iload 1, 1), (.iconst 0, 1), (.aload 0, 1), (.invokeinterface 11 1, 3), (.invokeinterface 9 3, 3), (.iconst 1, 1), (.isub, 1)] (pc' := 11) (S' := ([(0, .ref 0), (1, .int a1), (2, .int a2), (3, .int a3)], [.int ((m.1 13 3) - 1), .int 0, .int a1], rf_MM w m)) (by decide +kernel) rfl trivial ?_
  obtain ⟨y0, m0, hc0, hg⟩ := rf_b_some hg
  refine rf_calls C rf_fit0 j_X11_isWithin (As := [.int a1, .int 0, .int ((m.1 13 3) - 1)]) (rest := []) mw_X11_isWithin (c_X11_isWithin hc0) (by decide) lk_11_91 rfl rfl (Nat.le_of_ble_eq_true rfl) (by decide +kernel) ?_
  show rf_V 4 (rf_sh w) K 0 0 14 ([(0, .ref 0), (1, .int a1), (2, .int a2), (3, .int a3)], [.int y0], rf_MM w m0)
  refine rf_if_ne C 9 23 (by decide +kernel) (fun hc => ?_) (fun hc => ?_)
  · replace hg := (if_neg hc).symm.trans hg
    refine rf_seg C [(.iload 2, 1), (.iload 3, 1)] (pc' := 25) (S' := ([(0, .ref 0), (1, .int a1), (2, .int a2), (3, .int a3)], [.int a3, .int a2], rf_MM w m0)) (by decide +kernel) rfl trivial ?_
    obtain ⟨y1, m1, hc1, hg⟩ := rf_b_some hg
    refine rf_calls C rf_fit0 j_X11_isTime (As := [.int a2, .int a3]) (rest := []) mw_X11_isTime (c_X11_isTime hc1) (by decide) lk_11_245 rfl rfl (Nat.le_of_ble_eq_true rfl) (by decide +kernel) ?_
    show rf_V 4 (rf_sh w) K 0 0 28 ([(0, .ref 0), (1, .int a1), (2, .int a2), (3, .int a3)], [.int y1], rf_MM w m1)
    refine rf_if_ne C 9 37 (by decide +kernel) (fun hc => ?_) (fun hc => ?_)
    · replace hg := (if_neg hc).symm.trans hg
      refine rf_seg C [(.aload 0, 1), (.invokeinterface 11 1, 3), (.iload 1, 1), (.iload 2, 1), (.iload 3, 1)] (pc' := 44) (S' := ([(0, .ref 0), (1, .int a1), (2, .int a2), (3, .int a3)], [.int a3, .int a2, .int a1, .ref 13], rf_MM w m1)) (by decide +kernel) rfl trivial ?_
      obtain ⟨m2, hc2, hg⟩ := rf_bv_some hg
      refine rf_callv C rf_fit0 j_X9_putInForce (ci := 9) (As := [.int a1, .int a2, .int a3]) (rest := []) mw_X9_putInForce (c_X9_putInForce hc2) (by decide) rfl (by decide) lk_11_279 rfl rfl (Nat.le_of_ble_eq_true rfl) (by decide +kernel) ?_
      show rf_V 4 (rf_sh w) K 0 0 47 ([(0, .ref 0), (1, .int a1), (2, .int a2), (3, .int a3)], [], rf_MM w m2)
      refine rf_seg C [(.aload 0, 1), (.invokeinterface 11 1, 3), (.iload 1, 1)] (pc' := 52) (S' := ([(0, .ref 0), (1, .int a1), (2, .int a2), (3, .int a3)], [.int a1, .ref 13], rf_MM w m2)) (by decide +kernel) rfl trivial ?_
      obtain ⟨y3, m3, hc3, hg⟩ := rf_b_some hg
      refine rf_callv C rf_fit0 j_X9_isStriking (ci := 9) (As := [.int a1]) (rest := []) mw_X9_isStriking (c_X9_isStriking hc3) (by decide) rfl (by decide) lk_11_270 rfl rfl (Nat.le_of_ble_eq_true rfl) (by decide +kernel) ?_
      show rf_V 4 (rf_sh w) K 0 0 55 ([(0, .ref 0), (1, .int a1), (2, .int a2), (3, .int a3)], [.int y3], rf_MM w m3)
      refine rf_if_eq C 10 65 (by decide +kernel) (fun hc => ?_) (fun hc => ?_)
      · replace hg := (if_pos hc).symm.trans hg
        refine rf_seg C [(.aload 0, 1)] (pc' := 66) (S' := ([(0, .ref 0), (1, .int a1), (2, .int a2), (3, .int a3)], [.ref 0], rf_MM w m3)) (by decide +kernel) rfl trivial ?_
        obtain ⟨y4, m4, hc4, hg⟩ := rf_b_some hg
        refine rf_callv C rf_fit0 j_X11_granted (ci := 11) (As := []) (rest := []) mw_X11_granted (c_X11_granted hc4) (by decide) rfl (by decide) lk_11_101 rfl rfl (Nat.le_of_ble_eq_true rfl) (by decide +kernel) ?_
        show rf_V 4 (rf_sh w) K 0 0 69 ([(0, .ref 0), (1, .int a1), (2, .int a2), (3, .int a3)], [.int y4], rf_MM w m4)
        obtain ⟨q01, hg⟩ := rf_g_some hg
        obtain rfl := Option.some.inj hg
        exact rf_zret C hE (rf_01_of q01) (by decide +kernel)
      · replace hg := (if_neg hc).symm.trans hg
        refine rf_seg C [(.aload 0, 1), (.invokeinterface 11 2, 3)] (pc' := 62) (S' := ([(0, .ref 0), (1, .int a1), (2, .int a2), (3, .int a3)], [.ref 26], rf_MM w m3)) (by decide +kernel) rfl trivial ?_
        obtain ⟨m5, hc5, hg⟩ := rf_bv_some hg
        refine rf_callv C rf_fit0 j_X3_forgetAll (ci := 3) (As := []) (rest := []) mw_X3_forgetAll (c_X3_forgetAll hc5) (by decide) rfl (by decide) lk_11_273 rfl rfl (Nat.le_of_ble_eq_true rfl) (by decide +kernel) ?_
        show rf_V 4 (rf_sh w) K 0 0 65 ([(0, .ref 0), (1, .int a1), (2, .int a2), (3, .int a3)], [], rf_MM w m5)
        refine rf_seg C [(.aload 0, 1)] (pc' := 66) (S' := ([(0, .ref 0), (1, .int a1), (2, .int a2), (3, .int a3)], [.ref 0], rf_MM w m5)) (by decide +kernel) rfl trivial ?_
        obtain ⟨y6, m6, hc6, hg⟩ := rf_b_some hg
        refine rf_callv C rf_fit0 j_X11_granted (ci := 11) (As := []) (rest := []) mw_X11_granted (c_X11_granted hc6) (by decide) rfl (by decide) lk_11_101 rfl rfl (Nat.le_of_ble_eq_true rfl) (by decide +kernel) ?_
        show rf_V 4 (rf_sh w) K 0 0 69 ([(0, .ref 0), (1, .int a1), (2, .int a2), (3, .int a3)], [.int y6], rf_MM w m6)
        obtain ⟨q01, hg⟩ := rf_g_some hg
        obtain rfl := Option.some.inj hg
        exact rf_zret C hE (rf_01_of q01) (by decide +kernel)
    · replace hg := (if_pos hc).symm.trans hg
      refine rf_seg C [(.aload 0, 1), (.iconst 2, 1)] (pc' := 33) (S' := ([(0, .ref 0), (1, .int a1), (2, .int a2), (3, .int a3)], [.int 2, .ref 0], rf_MM w m1)) (by decide +kernel) rfl trivial ?_
      obtain ⟨y7, m7, hc7, hg⟩ := rf_b_some hg
      refine rf_callv C rf_fit0 j_X11_denied (ci := 11) (As := [.int 2]) (rest := []) mw_X11_denied (c_X11_denied hc7) (by decide) rfl (by decide) lk_11_88 rfl rfl (Nat.le_of_ble_eq_true rfl) (by decide +kernel) ?_
      show rf_V 4 (rf_sh w) K 0 0 36 ([(0, .ref 0), (1, .int a1), (2, .int a2), (3, .int a3)], [.int y7], rf_MM w m7)
      obtain ⟨q01, hg⟩ := rf_g_some hg
      obtain rfl := Option.some.inj hg
      exact rf_zret C hE (rf_01_of q01) (by decide +kernel)
  · replace hg := (if_pos hc).symm.trans hg
    refine rf_seg C [(.aload 0, 1), (.iconst 1, 1)] (pc' := 19) (S' := ([(0, .ref 0), (1, .int a1), (2, .int a2), (3, .int a3)], [.int 1, .ref 0], rf_MM w m0)) (by decide +kernel) rfl trivial ?_
    obtain ⟨y8, m8, hc8, hg⟩ := rf_b_some hg
    refine rf_callv C rf_fit0 j_X11_denied (ci := 11) (As := [.int 1]) (rest := []) mw_X11_denied (c_X11_denied hc8) (by decide) rfl (by decide) lk_11_88 rfl rfl (Nat.le_of_ble_eq_true rfl) (by decide +kernel) ?_
    show rf_V 4 (rf_sh w) K 0 0 22 ([(0, .ref 0), (1, .int a1), (2, .int a2), (3, .int a3)], [.int y8], rf_MM w m8)
    obtain ⟨q01, hg⟩ := rf_g_some hg
    obtain rfl := Option.some.inj hg
    exact rf_zret C hE (rf_01_of q01) (by decide +kernel)
-- X11_told
abbrev j_X11_told : rf_J := (11, yX11_told, cX11_told, 2, (some .int))
theorem mw_X11_told : rf_mv j_X11_told (rf_R 11) 1 := ⟨⟨rf_mem 51 (by decide +kernel), rf_mem 51 (by decide +kernel), rf_mem 0 (by decide +kernel), rf_mem 51 (by decide +kernel)⟩, by decide +kernel, by decide⟩
def g_X11_told (w : rf_w) (m : rf_m) (a1 : Int32) : Option (Int32 × rf_m) := (if a1 = 0 then rf_b (g_X9_leastAngle w m (m.1 0 10)) fun y0 m0 => some (y0, m0) else if a1 = 1 then rf_b (g_X9_allowedMiss w m (m.1 0 10)) fun y1 m1 => some (y1, m1) else some ((-1), m))
theorem c_X11_told {w : rf_w} {m : rf_m} {a1 : Int32} {r : Int32 × rf_m} (hg : g_X11_told w m a1 = some r) : rf_Con j_X11_told 6 (rf_sh w) [.ref 0, .int a1] (rf_MM w m) (some (.int r.1)) (rf_MM w r.2) := by
  refine rf_con j_X11_told 6 ⟨by decide +kernel, rfl, Nat.le_of_ble_eq_true rfl⟩ (fun K C hE => ?_)
  unfold g_X11_told at hg
  show rf_V 2 (rf_sh w) K 0 0 0 ([(0, .ref 0), (1, .int a1)], [], rf_MM w m)
  refine rf_seg C [(.iload 1, 1)] (pc' := 1) (S' := ([(0, .ref 0), (1, .int a1)], [.int a1], rf_MM w m)) (by decide +kernel) rfl trivial ?_
  by_cases ht0 : a1 = 0
  · replace hg := (if_pos ht0).symm.trans hg
    refine rf_lukc C ht0 28 (by decide +kernel) ?_
    refine rf_seg C [(.aload 0, 1), (.invokeinterface 11 1, 3), (.aload 0, 1), (.invokeinterface 11 10, 3)] (pc' := 36) (S' := ([(0, .ref 0), (1, .int a1)], [.int (m.1 0 10), .ref 13], rf_MM w m)) (by decide +kernel) rfl trivial ?_
    obtain ⟨y0, m0, hc0, hg⟩ := rf_b_some hg
    refine rf_callv C rf_fit0 j_X9_leastAngle (ci := 9) (As := [.int (m.1 0 10)]) (rest := []) mw_X9_leastAngle (c_X9_leastAngle hc0) (by decide) rfl (by decide) lk_11_282 rfl rfl (Nat.le_of_ble_eq_true rfl) (by decide +kernel) ?_
    show rf_V 2 (rf_sh w) K 0 0 39 ([(0, .ref 0), (1, .int a1)], [.int y0], rf_MM w m0)
    obtain rfl := Option.some.inj hg
    exact rf_iret C hE (by decide +kernel)
  · replace hg := (if_neg ht0).symm.trans hg
    by_cases ht1 : a1 = 1
    · replace hg := (if_pos ht1).symm.trans hg
      refine rf_lukc C ht1 40 (by decide +kernel) ?_
      refine rf_seg C [(.aload 0, 1), (.invokeinterface 11 1, 3), (.aload 0, 1), (.invokeinterface 11 10, 3)] (pc' := 48) (S' := ([(0, .ref 0), (1, .int a1)], [.int (m.1 0 10), .ref 13], rf_MM w m)) (by decide +kernel) rfl trivial ?_
      obtain ⟨y1, m1, hc1, hg⟩ := rf_b_some hg
      refine rf_callv C rf_fit0 j_X9_allowedMiss (ci := 9) (As := [.int (m.1 0 10)]) (rest := []) mw_X9_allowedMiss (c_X9_allowedMiss hc1) (by decide) rfl (by decide) lk_11_285 rfl rfl (Nat.le_of_ble_eq_true rfl) (by decide +kernel) ?_
      show rf_V 2 (rf_sh w) K 0 0 51 ([(0, .ref 0), (1, .int a1)], [.int y1], rf_MM w m1)
      obtain rfl := Option.some.inj hg
      exact rf_iret C hE (by decide +kernel)
    · replace hg := (if_neg ht1).symm.trans hg
      refine rf_lukd C [0, 1] 52 (by decide +kernel) (by intro z hz; have t0 : (a1).toInt ≠ 0 := rf_ti ht0; have t1 : (a1).toInt ≠ 1 := rf_ti ht1; simp only [List.mem_cons, List.not_mem_nil, or_false] at hz; omega) ?_
      refine rf_seg C [(.iconst (-1), 1)] (pc' := 53) (S' := ([(0, .ref 0), (1, .int a1)], [.int ((-1))], rf_MM w m)) (by decide +kernel) rfl trivial ?_
      obtain rfl := Option.some.inj hg
      exact rf_iret C hE (by decide +kernel)
-- X11_base
abbrev j_X11_base : rf_J := (11, yX11_base, cX11_base, 4, (some .int))
theorem mw_X11_base : rf_mv j_X11_base (rf_R 11) 3 := ⟨⟨rf_mem 52 (by decide +kernel), rf_mem 52 (by decide +kernel), rf_mem 0 (by decide +kernel), rf_mem 52 (by decide +kernel)⟩, by decide +kernel, by decide⟩
def g_X11_base (w : rf_w) (m : rf_m) (a1 : Int32) (a2 : Int32) (a3 : Int32) : Option (Int32 × rf_m) := rf_b (g_X5_isMark w m a1) fun y0 m0 => (if y0 = 0 then rf_b (g_X11_refused w m0 1) fun y1 m1 => some (y1, m1) else rf_b (g_X5_isMark w m0 a2) fun y2 m2 => (if y2 = 0 then rf_b (g_X11_refused w m2 1) fun y3 m3 => some (y3, m3) else rf_b (g_X3_isParty w m2 a3) fun y4 m4 => (if y4 = 0 then rf_b (g_X11_refused w m4 1) fun y11 m11 => some (y11, m11) else (if a1 = a2 then rf_b (g_X11_refused w m4 5) fun y5 m5 => some (y5, m5) else rf_b (g_X6_mayLay w m4 a1 a2 a3) fun y6 m6 => (if y6 = 0 then rf_b (g_X11_refused w m6 5) fun y10 m10 => some (y10, m10) else (if (m6.1 41 1) < 6 then rf_b (g_X6_addBase w m6 a1 a2 a3) fun y7 m7 => rf_b (g_X11_answered w m7 y7) fun y8 m8 => some (y8, m8) else rf_b (g_X11_refused w m6 3) fun y9 m9 => some (y9, m9)))))))
theorem c_X11_base {w : rf_w} {m : rf_m} {a1 : Int32} {a2 : Int32} {a3 : Int32} {r : Int32 × rf_m} (hg : g_X11_base w m a1 a2 a3 = some r) : rf_Con j_X11_base 4 (rf_sh w) [.ref 0, .int a1, .int a2, .int a3] (rf_MM w m) (some (.int r.1)) (rf_MM w r.2) := by
  refine rf_con j_X11_base 4 ⟨by decide +kernel, rfl, Nat.le_of_ble_eq_true rfl⟩ (fun K C hE => ?_)
  unfold g_X11_base at hg
  show rf_V 4 (rf_sh w) K 0 0 0 ([(0, .ref 0), (1, .int a1), (2, .int a2), (3, .int a3)], [], rf_MM w m)
  refine rf_seg C [(.aload 0, 1), (.invokeinterface 11 0, 3), (.iload 1, 1)] (pc' := 5) (S' := ([(0, .ref 0), (1, .int a1), (2, .int a2), (3, .int a3)], [.int a1, .ref 1], rf_MM w m)) (by decide +kernel) rfl trivial ?_
  obtain ⟨y0, m0, hc0, hg⟩ := rf_b_some hg
  refine rf_callv C rf_fit0 j_X5_isMark (ci := 5) (As := [.int a1]) (rest := []) mw_X5_isMark (c_X5_isMark hc0) (by decide) rfl (by decide) lk_11_122 rfl rfl (Nat.le_of_ble_eq_true rfl) (by decide +kernel) ?_
  show rf_V 4 (rf_sh w) K 0 0 8 ([(0, .ref 0), (1, .int a1), (2, .int a2), (3, .int a3)], [.int y0], rf_MM w m0)
  refine rf_if_eq C 25 33 (by decide +kernel) (fun hc => ?_) (fun hc => ?_)
  · replace hg := (if_pos hc).symm.trans hg
    refine rf_seg C [(.aload 0, 1), (.iconst 1, 1)] (pc' := 35) (S' := ([(0, .ref 0), (1, .int a1), (2, .int a2), (3, .int a3)], [.int 1, .ref 0], rf_MM w m0)) (by decide +kernel) rfl trivial ?_
    obtain ⟨y1, m1, hc1, hg⟩ := rf_b_some hg
    refine rf_callv C rf_fit0 j_X11_refused (ci := 11) (As := [.int 1]) (rest := []) mw_X11_refused (c_X11_refused hc1) (by decide) rfl (by decide) lk_11_105 rfl rfl (Nat.le_of_ble_eq_true rfl) (by decide +kernel) ?_
    show rf_V 4 (rf_sh w) K 0 0 38 ([(0, .ref 0), (1, .int a1), (2, .int a2), (3, .int a3)], [.int y1], rf_MM w m1)
    obtain rfl := Option.some.inj hg
    exact rf_iret C hE (by decide +kernel)
  · replace hg := (if_neg hc).symm.trans hg
    refine rf_seg C [(.aload 0, 1), (.invokeinterface 11 0, 3), (.iload 2, 1)] (pc' := 16) (S' := ([(0, .ref 0), (1, .int a1), (2, .int a2), (3, .int a3)], [.int a2, .ref 1], rf_MM w m0)) (by decide +kernel) rfl trivial ?_
    obtain ⟨y2, m2, hc2, hg⟩ := rf_b_some hg
    refine rf_callv C rf_fit0 j_X5_isMark (ci := 5) (As := [.int a2]) (rest := []) mw_X5_isMark (c_X5_isMark hc2) (by decide) rfl (by decide) lk_11_122 rfl rfl (Nat.le_of_ble_eq_true rfl) (by decide +kernel) ?_
    show rf_V 4 (rf_sh w) K 0 0 19 ([(0, .ref 0), (1, .int a1), (2, .int a2), (3, .int a3)], [.int y2], rf_MM w m2)
    refine rf_if_eq C 14 33 (by decide +kernel) (fun hc => ?_) (fun hc => ?_)
    · replace hg := (if_pos hc).symm.trans hg
      refine rf_seg C [(.aload 0, 1), (.iconst 1, 1)] (pc' := 35) (S' := ([(0, .ref 0), (1, .int a1), (2, .int a2), (3, .int a3)], [.int 1, .ref 0], rf_MM w m2)) (by decide +kernel) rfl trivial ?_
      obtain ⟨y3, m3, hc3, hg⟩ := rf_b_some hg
      refine rf_callv C rf_fit0 j_X11_refused (ci := 11) (As := [.int 1]) (rest := []) mw_X11_refused (c_X11_refused hc3) (by decide) rfl (by decide) lk_11_105 rfl rfl (Nat.le_of_ble_eq_true rfl) (by decide +kernel) ?_
      show rf_V 4 (rf_sh w) K 0 0 38 ([(0, .ref 0), (1, .int a1), (2, .int a2), (3, .int a3)], [.int y3], rf_MM w m3)
      obtain rfl := Option.some.inj hg
      exact rf_iret C hE (by decide +kernel)
    · replace hg := (if_neg hc).symm.trans hg
      refine rf_seg C [(.aload 0, 1), (.invokeinterface 11 2, 3), (.iload 3, 1)] (pc' := 27) (S' := ([(0, .ref 0), (1, .int a1), (2, .int a2), (3, .int a3)], [.int a3, .ref 26], rf_MM w m2)) (by decide +kernel) rfl trivial ?_
      obtain ⟨y4, m4, hc4, hg⟩ := rf_b_some hg
      refine rf_callv C rf_fit0 j_X3_isParty (ci := 3) (As := [.int a3]) (rest := []) mw_X3_isParty (c_X3_isParty hc4) (by decide) rfl (by decide) lk_11_170 rfl rfl (Nat.le_of_ble_eq_true rfl) (by decide +kernel) ?_
      show rf_V 4 (rf_sh w) K 0 0 30 ([(0, .ref 0), (1, .int a1), (2, .int a2), (3, .int a3)], [.int y4], rf_MM w m4)
      refine rf_if_ne C 9 39 (by decide +kernel) (fun hc => ?_) (fun hc => ?_)
      · replace hg := (if_neg hc).symm.trans hg
        refine rf_seg C [(.iload 1, 1), (.iload 2, 1)] (pc' := 41) (S' := ([(0, .ref 0), (1, .int a1), (2, .int a2), (3, .int a3)], [.int a2, .int a1], rf_MM w m4)) (by decide +kernel) rfl trivial ?_
        refine rf_icmp_eq C 16 57 (by decide +kernel) (fun hc => ?_) (fun hc => ?_)
        · replace hg := (if_pos hc).symm.trans hg
          refine rf_seg C [(.aload 0, 1), (.iconst 5, 1)] (pc' := 59) (S' := ([(0, .ref 0), (1, .int a1), (2, .int a2), (3, .int a3)], [.int 5, .ref 0], rf_MM w m4)) (by decide +kernel) rfl trivial ?_
          obtain ⟨y5, m5, hc5, hg⟩ := rf_b_some hg
          refine rf_callv C rf_fit0 j_X11_refused (ci := 11) (As := [.int 5]) (rest := []) mw_X11_refused (c_X11_refused hc5) (by decide) rfl (by decide) lk_11_105 rfl rfl (Nat.le_of_ble_eq_true rfl) (by decide +kernel) ?_
          show rf_V 4 (rf_sh w) K 0 0 62 ([(0, .ref 0), (1, .int a1), (2, .int a2), (3, .int a3)], [.int y5], rf_MM w m5)
          obtain rfl := Option.some.inj hg
          exact rf_iret C hE (by decide +kernel)
        · replace hg := (if_neg hc).symm.trans hg
          refine rf_seg C [(.aload 0, 1), (.invokeinterface 11 3, 3), (.iload 1, 1), (.iload 2, 1), (.iload 3, 1)] (pc' := 51) (S' := ([(0, .ref 0), (1, .int a1), (2, .int a2), (3, .int a3)], [.int a3, .int a2, .int a1, .ref 41], rf_MM w m4)) (by decide +kernel) rfl trivial ?_
          obtain ⟨y6, m6, hc6, hg⟩ := rf_b_some hg
          refine rf_callv C rf_fit0 j_X6_mayLay (ci := 6) (As := [.int a1, .int a2, .int a3]) (rest := []) mw_X6_mayLay (c_X6_mayLay hc6) (by decide) rfl (by decide) lk_11_288 rfl rfl (Nat.le_of_ble_eq_true rfl) (by decide +kernel) ?_
          show rf_V 4 (rf_sh w) K 0 0 54 ([(0, .ref 0), (1, .int a1), (2, .int a2), (3, .int a3)], [.int y6], rf_MM w m6)
          refine rf_if_ne C 9 63 (by decide +kernel) (fun hc => ?_) (fun hc => ?_)
          · replace hg := (if_neg hc).symm.trans hg
            refine rf_seg C [(.aload 0, 1), (.invokeinterface 11 3, 3), (.invokeinterface 6 1, 3), (.iconst 6, 2)] (pc' := 72) (S' := ([(0, .ref 0), (1, .int a1), (2, .int a2), (3, .int a3)], [.int 6, .int (m6.1 41 1)], rf_MM w m6)) (by decide +kernel) rfl trivial ?_
            refine rf_icmp_lt C 9 81 (by decide +kernel) (fun hc => ?_) (fun hc => ?_)
            · replace hg := (if_pos hc).symm.trans hg
              refine rf_seg C [(.aload 0, 1), (.aload 0, 1), (.invokeinterface 11 3, 3), (.iload 1, 1), (.iload 2, 1), (.iload 3, 1)] (pc' := 89) (S' := ([(0, .ref 0), (1, .int a1), (2, .int a2), (3, .int a3)], [.int a3, .int a2, .int a1, .ref 41, .ref 0], rf_MM w m6)) (by decide +kernel) rfl trivial ?_
              obtain ⟨y7, m7, hc7, hg⟩ := rf_b_some hg
              refine rf_callv C rf_fit0 j_X6_addBase (ci := 6) (As := [.int a1, .int a2, .int a3]) (rest := [.ref 0]) mw_X6_addBase (c_X6_addBase hc7) (by decide) rfl (by decide) lk_11_294 rfl rfl (Nat.le_of_ble_eq_true rfl) (by decide +kernel) ?_
              show rf_V 4 (rf_sh w) K 0 0 92 ([(0, .ref 0), (1, .int a1), (2, .int a2), (3, .int a3)], [.int y7, .ref 0], rf_MM w m7)
              obtain ⟨y8, m8, hc8, hg⟩ := rf_b_some hg
              refine rf_callv C rf_fit0 j_X11_answered (ci := 11) (As := [.int y7]) (rest := []) mw_X11_answered (c_X11_answered hc8) (by decide) rfl (by decide) lk_11_119 rfl rfl (Nat.le_of_ble_eq_true rfl) (by decide +kernel) ?_
              show rf_V 4 (rf_sh w) K 0 0 95 ([(0, .ref 0), (1, .int a1), (2, .int a2), (3, .int a3)], [.int y8], rf_MM w m8)
              obtain rfl := Option.some.inj hg
              exact rf_iret C hE (by decide +kernel)
            · replace hg := (if_neg hc).symm.trans hg
              refine rf_seg C [(.aload 0, 1), (.iconst 3, 1)] (pc' := 77) (S' := ([(0, .ref 0), (1, .int a1), (2, .int a2), (3, .int a3)], [.int 3, .ref 0], rf_MM w m6)) (by decide +kernel) rfl trivial ?_
              obtain ⟨y9, m9, hc9, hg⟩ := rf_b_some hg
              refine rf_callv C rf_fit0 j_X11_refused (ci := 11) (As := [.int 3]) (rest := []) mw_X11_refused (c_X11_refused hc9) (by decide) rfl (by decide) lk_11_105 rfl rfl (Nat.le_of_ble_eq_true rfl) (by decide +kernel) ?_
              show rf_V 4 (rf_sh w) K 0 0 80 ([(0, .ref 0), (1, .int a1), (2, .int a2), (3, .int a3)], [.int y9], rf_MM w m9)
              obtain rfl := Option.some.inj hg
              exact rf_iret C hE (by decide +kernel)
          · replace hg := (if_pos hc).symm.trans hg
            refine rf_seg C [(.aload 0, 1), (.iconst 5, 1)] (pc' := 59) (S' := ([(0, .ref 0), (1, .int a1), (2, .int a2), (3, .int a3)], [.int 5, .ref 0], rf_MM w m6)) (by decide +kernel) rfl trivial ?_
            obtain ⟨y10, m10, hc10, hg⟩ := rf_b_some hg
            refine rf_callv C rf_fit0 j_X11_refused (ci := 11) (As := [.int 5]) (rest := []) mw_X11_refused (c_X11_refused hc10) (by decide) rfl (by decide) lk_11_105 rfl rfl (Nat.le_of_ble_eq_true rfl) (by decide +kernel) ?_
            show rf_V 4 (rf_sh w) K 0 0 62 ([(0, .ref 0), (1, .int a1), (2, .int a2), (3, .int a3)], [.int y10], rf_MM w m10)
            obtain rfl := Option.some.inj hg
            exact rf_iret C hE (by decide +kernel)
      · replace hg := (if_pos hc).symm.trans hg
        refine rf_seg C [(.aload 0, 1), (.iconst 1, 1)] (pc' := 35) (S' := ([(0, .ref 0), (1, .int a1), (2, .int a2), (3, .int a3)], [.int 1, .ref 0], rf_MM w m4)) (by decide +kernel) rfl trivial ?_
        obtain ⟨y11, m11, hc11, hg⟩ := rf_b_some hg
        refine rf_callv C rf_fit0 j_X11_refused (ci := 11) (As := [.int 1]) (rest := []) mw_X11_refused (c_X11_refused hc11) (by decide) rfl (by decide) lk_11_105 rfl rfl (Nat.le_of_ble_eq_true rfl) (by decide +kernel) ?_
        show rf_V 4 (rf_sh w) K 0 0 38 ([(0, .ref 0), (1, .int a1), (2, .int a2), (3, .int a3)], [.int y11], rf_MM w m11)
        obtain rfl := Option.some.inj hg
        exact rf_iret C hE (by decide +kernel)
-- X11_bar
abbrev j_X11_bar : rf_J := (11, yX11_bar, cX11_bar, 5, (some .int))
theorem mw_X11_bar : rf_mv j_X11_bar (rf_R 11) 4 := ⟨⟨rf_mem 53 (by decide +kernel), rf_mem 54 (by decide +kernel), rf_mem 0 (by decide +kernel), rf_mem 54 (by decide +kernel)⟩, by decide +kernel, by decide⟩
def g_X11_bar (w : rf_w) (m : rf_m) (a1 : Int32) (a2 : Int32) (a3 : Int32) (a4 : Int32) : Option (Int32 × rf_m) := rf_b (g_X6_isBase w m a1) fun y0 m0 => (if y0 = 0 then rf_b (g_X11_refused w m0 1) fun y12 m12 => some (y12, m12) else rf_b (g_X11_isWithin w m0 a2 1000 100000) fun y1 m1 => (if y1 = 0 then rf_b (g_X11_refused w m1 2) fun y2 m2 => some (y2, m2) else rf_b (g_X11_isWithin w m1 a3 ((-20)) 60) fun y3 m3 => (if y3 = 0 then rf_b (g_X11_refused w m3 2) fun y4 m4 => some (y4, m4) else rf_b (g_X11_isWithin w m3 a4 0 999) fun y5 m5 => (if y5 = 0 then rf_b (g_X11_refused w m5 2) fun y6 m6 => some (y6, m6) else (if a4 < a2 then rf_g (rf_in a1 6) ((if (m5.1 42 (Int32.toNatClampNeg a1)) < 40 then rf_b (g_X6_addBar w m5 a1 a2 a3 a4) fun y8 m8 => rf_b (g_X11_answered w m8 y8) fun y9 m9 => some (y9, m9) else rf_b (g_X11_refused w m5 3) fun y10 m10 => some (y10, m10))) else rf_b (g_X11_refused w m5 2) fun y11 m11 => some (y11, m11))))))
theorem c_X11_bar {w : rf_w} {m : rf_m} {a1 : Int32} {a2 : Int32} {a3 : Int32} {a4 : Int32} {r : Int32 × rf_m} (hg : g_X11_bar w m a1 a2 a3 a4 = some r) : rf_Con j_X11_bar 2 (rf_sh w) [.ref 0, .int a1, .int a2, .int a3, .int a4] (rf_MM w m) (some (.int r.1)) (rf_MM w r.2) := by
  refine rf_con j_X11_bar 2 ⟨by decide +kernel, rfl, Nat.le_of_ble_eq_true rfl⟩ (fun K C hE => ?_)
  unfold g_X11_bar at hg
  show rf_V 5 (rf_sh w) K 0 0 0 ([(0, .ref 0), (1, .int a1), (2, .int a2), (3, .int a3), (4, .int a4)], [], rf_MM w m)
  refine rf_seg C [(.aload 0, 1), (.invokeinterface 11 3, 3), (.iload 1, 1)] (pc' := 5) (S' := ([(0, .ref 0), (1, .int a1), (2, .int a2), (3, .int a3), (4, .int a4)], [.int a1, .ref 41], rf_MM w m)) (by decide +kernel) rfl trivial ?_
  obtain ⟨y0, m0, hc0, hg⟩ := rf_b_some hg
  refine rf_callv C rf_fit0 j_X6_isBase (ci := 6) (As := [.int a1]) (rest := []) mw_X6_isBase (c_X6_isBase hc0) (by decide) rfl (by decide) lk_11_297 rfl rfl (Nat.le_of_ble_eq_true rfl) (by decide +kernel) ?_
  show rf_V 5 (rf_sh w) K 0 0 8 ([(0, .ref 0), (1, .int a1), (2, .int a2), (3, .int a3), (4, .int a4)], [.int y0], rf_MM w m0)
  refine rf_if_ne C 9 17 (by decide +kernel) (fun hc => ?_) (fun hc => ?_)
  · replace hg := (if_neg hc).symm.trans hg
    refine rf_seg C [(.iload 2, 1), (.iconst 1000, 3), (.iconst 100000, 3)] (pc' := 24) (S' := ([(0, .ref 0), (1, .int a1), (2, .int a2), (3, .int a3), (4, .int a4)], [.int 100000, .int 1000, .int a2], rf_MM w m0)) (by decide +kernel) rfl trivial ?_
    obtain ⟨y1, m1, hc1, hg⟩ := rf_b_some hg
    refine rf_calls C rf_fit0 j_X11_isWithin (As := [.int a2, .int 1000, .int 100000]) (rest := []) mw_X11_isWithin (c_X11_isWithin hc1) (by decide) lk_11_91 rfl rfl (Nat.le_of_ble_eq_true rfl) (by decide +kernel) ?_
    show rf_V 5 (rf_sh w) K 0 0 27 ([(0, .ref 0), (1, .int a1), (2, .int a2), (3, .int a3), (4, .int a4)], [.int y1], rf_MM w m1)
    refine rf_if_eq C 32 59 (by decide +kernel) (fun hc => ?_) (fun hc => ?_)
    · replace hg := (if_pos hc).symm.trans hg
      refine rf_seg C [(.aload 0, 1), (.iconst 2, 1)] (pc' := 61) (S' := ([(0, .ref 0), (1, .int a1), (2, .int a2), (3, .int a3), (4, .int a4)], [.int 2, .ref 0], rf_MM w m1)) (by decide +kernel) rfl trivial ?_
      obtain ⟨y2, m2, hc2, hg⟩ := rf_b_some hg
      refine rf_callv C rf_fit0 j_X11_refused (ci := 11) (As := [.int 2]) (rest := []) mw_X11_refused (c_X11_refused hc2) (by decide) rfl (by decide) lk_11_105 rfl rfl (Nat.le_of_ble_eq_true rfl) (by decide +kernel) ?_
      show rf_V 5 (rf_sh w) K 0 0 64 ([(0, .ref 0), (1, .int a1), (2, .int a2), (3, .int a3), (4, .int a4)], [.int y2], rf_MM w m2)
      obtain rfl := Option.some.inj hg
      exact rf_iret C hE (by decide +kernel)
    · replace hg := (if_neg hc).symm.trans hg
      refine rf_seg C [(.iload 3, 1), (.iconst (-20), 2), (.iconst 60, 2)] (pc' := 35) (S' := ([(0, .ref 0), (1, .int a1), (2, .int a2), (3, .int a3), (4, .int a4)], [.int 60, .int ((-20)), .int a3], rf_MM w m1)) (by decide +kernel) rfl trivial ?_
      obtain ⟨y3, m3, hc3, hg⟩ := rf_b_some hg
      refine rf_calls C rf_fit0 j_X11_isWithin (As := [.int a3, .int ((-20)), .int 60]) (rest := []) mw_X11_isWithin (c_X11_isWithin hc3) (by decide) lk_11_91 rfl rfl (Nat.le_of_ble_eq_true rfl) (by decide +kernel) ?_
      show rf_V 5 (rf_sh w) K 0 0 38 ([(0, .ref 0), (1, .int a1), (2, .int a2), (3, .int a3), (4, .int a4)], [.int y3], rf_MM w m3)
      refine rf_if_eq C 21 59 (by decide +kernel) (fun hc => ?_) (fun hc => ?_)
      · replace hg := (if_pos hc).symm.trans hg
        refine rf_seg C [(.aload 0, 1), (.iconst 2, 1)] (pc' := 61) (S' := ([(0, .ref 0), (1, .int a1), (2, .int a2), (3, .int a3), (4, .int a4)], [.int 2, .ref 0], rf_MM w m3)) (by decide +kernel) rfl trivial ?_
        obtain ⟨y4, m4, hc4, hg⟩ := rf_b_some hg
        refine rf_callv C rf_fit0 j_X11_refused (ci := 11) (As := [.int 2]) (rest := []) mw_X11_refused (c_X11_refused hc4) (by decide) rfl (by decide) lk_11_105 rfl rfl (Nat.le_of_ble_eq_true rfl) (by decide +kernel) ?_
        show rf_V 5 (rf_sh w) K 0 0 64 ([(0, .ref 0), (1, .int a1), (2, .int a2), (3, .int a3), (4, .int a4)], [.int y4], rf_MM w m4)
        obtain rfl := Option.some.inj hg
        exact rf_iret C hE (by decide +kernel)
      · replace hg := (if_neg hc).symm.trans hg
        refine rf_seg C [(.iload 4, 2), (.iconst 0, 1), (.iconst 999, 3)] (pc' := 47) (S' := ([(0, .ref 0), (1, .int a1), (2, .int a2), (3, .int a3), (4, .int a4)], [.int 999, .int 0, .int a4], rf_MM w m3)) (by decide +kernel) rfl trivial ?_
        obtain ⟨y5, m5, hc5, hg⟩ := rf_b_some hg
        refine rf_calls C rf_fit0 j_X11_isWithin (As := [.int a4, .int 0, .int 999]) (rest := []) mw_X11_isWithin (c_X11_isWithin hc5) (by decide) lk_11_91 rfl rfl (Nat.le_of_ble_eq_true rfl) (by decide +kernel) ?_
        show rf_V 5 (rf_sh w) K 0 0 50 ([(0, .ref 0), (1, .int a1), (2, .int a2), (3, .int a3), (4, .int a4)], [.int y5], rf_MM w m5)
        refine rf_if_eq C 9 59 (by decide +kernel) (fun hc => ?_) (fun hc => ?_)
        · replace hg := (if_pos hc).symm.trans hg
          refine rf_seg C [(.aload 0, 1), (.iconst 2, 1)] (pc' := 61) (S' := ([(0, .ref 0), (1, .int a1), (2, .int a2), (3, .int a3), (4, .int a4)], [.int 2, .ref 0], rf_MM w m5)) (by decide +kernel) rfl trivial ?_
          obtain ⟨y6, m6, hc6, hg⟩ := rf_b_some hg
          refine rf_callv C rf_fit0 j_X11_refused (ci := 11) (As := [.int 2]) (rest := []) mw_X11_refused (c_X11_refused hc6) (by decide) rfl (by decide) lk_11_105 rfl rfl (Nat.le_of_ble_eq_true rfl) (by decide +kernel) ?_
          show rf_V 5 (rf_sh w) K 0 0 64 ([(0, .ref 0), (1, .int a1), (2, .int a2), (3, .int a3), (4, .int a4)], [.int y6], rf_MM w m6)
          obtain rfl := Option.some.inj hg
          exact rf_iret C hE (by decide +kernel)
        · replace hg := (if_neg hc).symm.trans hg
          refine rf_seg C [(.iload 4, 2), (.iload 2, 1)] (pc' := 56) (S' := ([(0, .ref 0), (1, .int a1), (2, .int a2), (3, .int a3), (4, .int a4)], [.int a2, .int a4], rf_MM w m5)) (by decide +kernel) rfl trivial ?_
          refine rf_icmp_lt C 9 65 (by decide +kernel) (fun hc => ?_) (fun hc => ?_)
          · replace hg := (if_pos hc).symm.trans hg
            obtain ⟨q7, hg⟩ := rf_g_some hg
            refine rf_seg C [(.aload 0, 1), (.invokeinterface 11 3, 3), (.invokeinterface 6 0, 3), (.iload 1, 1), (.iaload, 1), (.iconst 40, 2)] (pc' := 76) (S' := ([(0, .ref 0), (1, .int a1), (2, .int a2), (3, .int a3), (4, .int a4)], [.int 40, .int (m5.1 42 (Int32.toNatClampNeg a1))], rf_MM w m5)) (by decide +kernel) rfl (rf_in_of q7) ?_
            refine rf_icmp_lt C 9 85 (by decide +kernel) (fun hc => ?_) (fun hc => ?_)
            · replace hg := (if_pos hc).symm.trans hg
              refine rf_seg C [(.aload 0, 1), (.aload 0, 1), (.invokeinterface 11 3, 3), (.iload 1, 1), (.iload 2, 1), (.iload 3, 1), (.iload 4, 2)] (pc' := 95) (S' := ([(0, .ref 0), (1, .int a1), (2, .int a2), (3, .int a3), (4, .int a4)], [.int a4, .int a3, .int a2, .int a1, .ref 41, .ref 0], rf_MM w m5)) (by decide +kernel) rfl trivial ?_
              obtain ⟨y8, m8, hc8, hg⟩ := rf_b_some hg
              refine rf_callv C rf_fit0 j_X6_addBar (ci := 6) (As := [.int a1, .int a2, .int a3, .int a4]) (rest := [.ref 0]) mw_X6_addBar (c_X6_addBar hc8) (by decide) rfl (by decide) lk_11_304 rfl rfl (Nat.le_of_ble_eq_true rfl) (by decide +kernel) ?_
              show rf_V 5 (rf_sh w) K 0 0 98 ([(0, .ref 0), (1, .int a1), (2, .int a2), (3, .int a3), (4, .int a4)], [.int y8, .ref 0], rf_MM w m8)
              obtain ⟨y9, m9, hc9, hg⟩ := rf_b_some hg
              refine rf_callv C rf_fit0 j_X11_answered (ci := 11) (As := [.int y8]) (rest := []) mw_X11_answered (c_X11_answered hc9) (by decide) rfl (by decide) lk_11_119 rfl rfl (Nat.le_of_ble_eq_true rfl) (by decide +kernel) ?_
              show rf_V 5 (rf_sh w) K 0 0 101 ([(0, .ref 0), (1, .int a1), (2, .int a2), (3, .int a3), (4, .int a4)], [.int y9], rf_MM w m9)
              obtain rfl := Option.some.inj hg
              exact rf_iret C hE (by decide +kernel)
            · replace hg := (if_neg hc).symm.trans hg
              refine rf_seg C [(.aload 0, 1), (.iconst 3, 1)] (pc' := 81) (S' := ([(0, .ref 0), (1, .int a1), (2, .int a2), (3, .int a3), (4, .int a4)], [.int 3, .ref 0], rf_MM w m5)) (by decide +kernel) rfl trivial ?_
              obtain ⟨y10, m10, hc10, hg⟩ := rf_b_some hg
              refine rf_callv C rf_fit0 j_X11_refused (ci := 11) (As := [.int 3]) (rest := []) mw_X11_refused (c_X11_refused hc10) (by decide) rfl (by decide) lk_11_105 rfl rfl (Nat.le_of_ble_eq_true rfl) (by decide +kernel) ?_
              show rf_V 5 (rf_sh w) K 0 0 84 ([(0, .ref 0), (1, .int a1), (2, .int a2), (3, .int a3), (4, .int a4)], [.int y10], rf_MM w m10)
              obtain rfl := Option.some.inj hg
              exact rf_iret C hE (by decide +kernel)
          · replace hg := (if_neg hc).symm.trans hg
            refine rf_seg C [(.aload 0, 1), (.iconst 2, 1)] (pc' := 61) (S' := ([(0, .ref 0), (1, .int a1), (2, .int a2), (3, .int a3), (4, .int a4)], [.int 2, .ref 0], rf_MM w m5)) (by decide +kernel) rfl trivial ?_
            obtain ⟨y11, m11, hc11, hg⟩ := rf_b_some hg
            refine rf_callv C rf_fit0 j_X11_refused (ci := 11) (As := [.int 2]) (rest := []) mw_X11_refused (c_X11_refused hc11) (by decide) rfl (by decide) lk_11_105 rfl rfl (Nat.le_of_ble_eq_true rfl) (by decide +kernel) ?_
            show rf_V 5 (rf_sh w) K 0 0 64 ([(0, .ref 0), (1, .int a1), (2, .int a2), (3, .int a3), (4, .int a4)], [.int y11], rf_MM w m11)
            obtain rfl := Option.some.inj hg
            exact rf_iret C hE (by decide +kernel)
  · replace hg := (if_pos hc).symm.trans hg
    refine rf_seg C [(.aload 0, 1), (.iconst 1, 1)] (pc' := 13) (S' := ([(0, .ref 0), (1, .int a1), (2, .int a2), (3, .int a3), (4, .int a4)], [.int 1, .ref 0], rf_MM w m0)) (by decide +kernel) rfl trivial ?_
    obtain ⟨y12, m12, hc12, hg⟩ := rf_b_some hg
    refine rf_callv C rf_fit0 j_X11_refused (ci := 11) (As := [.int 1]) (rest := []) mw_X11_refused (c_X11_refused hc12) (by decide) rfl (by decide) lk_11_105 rfl rfl (Nat.le_of_ble_eq_true rfl) (by decide +kernel) ?_
    show rf_V 5 (rf_sh w) K 0 0 16 ([(0, .ref 0), (1, .int a1), (2, .int a2), (3, .int a3), (4, .int a4)], [.int y12], rf_MM w m12)
    obtain rfl := Option.some.inj hg
    exact rf_iret C hE (by decide +kernel)
-- X11_growth
abbrev j_X11_growth : rf_J := (11, yX11_growth, cX11_growth, 2, (some .boolean))
theorem mw_X11_growth : rf_mv j_X11_growth (rf_R 11) 1 := ⟨⟨rf_mem 54 (by decide +kernel), rf_mem 54 (by decide +kernel), rf_mem 0 (by decide +kernel), rf_mem 55 (by decide +kernel)⟩, by decide +kernel, by decide⟩
def g_X11_growth (w : rf_w) (m : rf_m) (a1 : Int32) : Option (Int32 × rf_m) := rf_b (g_X11_isWithin w m a1 0 50) fun y0 m0 => (if y0 = 0 then rf_b (g_X11_denied w m0 2) fun y2 m2 => rf_g (rf_01 y2) (some (y2, m2)) else rf_b (g_X11_granted w (rf_i m0 41 2 a1)) fun y1 m1 => rf_g (rf_01 y1) (some (y1, m1)))
theorem c_X11_growth {w : rf_w} {m : rf_m} {a1 : Int32} {r : Int32 × rf_m} (hg : g_X11_growth w m a1 = some r) : rf_Con j_X11_growth 2 (rf_sh w) [.ref 0, .int a1] (rf_MM w m) (some (.int r.1)) (rf_MM w r.2) := by
  refine rf_con j_X11_growth 2 ⟨by decide +kernel, rfl, Nat.le_of_ble_eq_true rfl⟩ (fun K C hE => ?_)
  unfold g_X11_growth at hg
  show rf_V 2 (rf_sh w) K 0 0 0 ([(0, .ref 0), (1, .int a1)], [], rf_MM w m)
  refine rf_seg C [(.iload 1, 1), (.iconst 0, 1), (.iconst 50, 2)] (pc' := 4) (S' := ([(0, .ref 0), (1, .int a1)], [.int 50, .int 0, .int a1], rf_MM w m)) (by decide +kernel) rfl trivial ?_
  obtain ⟨y0, m0, hc0, hg⟩ := rf_b_some hg
  refine rf_calls C rf_fit0 j_X11_isWithin (As := [.int a1, .int 0, .int 50]) (rest := []) mw_X11_isWithin (c_X11_isWithin hc0) (by decide) lk_11_91 rfl rfl (Nat.le_of_ble_eq_true rfl) (by decide +kernel) ?_
  show rf_V 2 (rf_sh w) K 0 0 7 ([(0, .ref 0), (1, .int a1)], [.int y0], rf_MM w m0)
  refine rf_if_ne C 9 16 (by decide +kernel) (fun hc => ?_) (fun hc => ?_)
  · replace hg := (if_neg hc).symm.trans hg
    refine rf_seg C [(.aload 0, 1), (.invokeinterface 11 3, 3), (.iload 1, 1), (.multianewarray 6 2, 3), (.aload 0, 1)] (pc' := 25) (S' := ([(0, .ref 0), (1, .int a1)], [.ref 0], rf_MM w (rf_i m0 41 2 a1))) (by decide +kernel) rfl trivial ?_
    obtain ⟨y1, m1, hc1, hg⟩ := rf_b_some hg
    refine rf_callv C rf_fit0 j_X11_granted (ci := 11) (As := []) (rest := []) mw_X11_granted (c_X11_granted hc1) (by decide) rfl (by decide) lk_11_101 rfl rfl (Nat.le_of_ble_eq_true rfl) (by decide +kernel) ?_
    show rf_V 2 (rf_sh w) K 0 0 28 ([(0, .ref 0), (1, .int a1)], [.int y1], rf_MM w m1)
    obtain ⟨q01, hg⟩ := rf_g_some hg
    obtain rfl := Option.some.inj hg
    exact rf_zret C hE (rf_01_of q01) (by decide +kernel)
  · replace hg := (if_pos hc).symm.trans hg
    refine rf_seg C [(.aload 0, 1), (.iconst 2, 1)] (pc' := 12) (S' := ([(0, .ref 0), (1, .int a1)], [.int 2, .ref 0], rf_MM w m0)) (by decide +kernel) rfl trivial ?_
    obtain ⟨y2, m2, hc2, hg⟩ := rf_b_some hg
    refine rf_callv C rf_fit0 j_X11_denied (ci := 11) (As := [.int 2]) (rest := []) mw_X11_denied (c_X11_denied hc2) (by decide) rfl (by decide) lk_11_88 rfl rfl (Nat.le_of_ble_eq_true rfl) (by decide +kernel) ?_
    show rf_V 2 (rf_sh w) K 0 0 15 ([(0, .ref 0), (1, .int a1)], [.int y2], rf_MM w m2)
    obtain ⟨q01, hg⟩ := rf_g_some hg
    obtain rfl := Option.some.inj hg
    exact rf_zret C hE (rf_01_of q01) (by decide +kernel)
-- X11_baseOf
abbrev j_X11_baseOf : rf_J := (11, yX11_baseOf, cX11_baseOf, 3, (some .int))
theorem mw_X11_baseOf : rf_mv j_X11_baseOf (rf_R 11) 2 := ⟨⟨rf_mem 55 (by decide +kernel), rf_mem 55 (by decide +kernel), rf_mem 0 (by decide +kernel), rf_mem 55 (by decide +kernel)⟩, by decide +kernel, by decide⟩
def g_X11_baseOf (w : rf_w) (m : rf_m) (a1 : Int32) (a2 : Int32) : Option (Int32 × rf_m) := rf_b (g_X6_isBase w m a1) fun y0 m0 => (if y0 = 0 then some ((-1), m0) else (if a2 = 0 then rf_b (g_X6_lengthOf w m0 a1) fun y1 m1 => some (y1, m1) else if a2 = 1 then rf_g (rf_in a1 6) (some (m0.1 42 (Int32.toNatClampNeg a1), m0)) else if a2 = 2 then rf_b (g_X6_leastOf w m0 a1) fun y3 m3 => some (y3, m3) else if a2 = 3 then rf_b (g_X6_mostOf w m0 a1) fun y4 m4 => some (y4, m4) else if a2 = 4 then rf_b (g_X6_laidAgain w m0 a1) fun y5 m5 => some (y5, m5) else some ((-1), m0)))
theorem c_X11_baseOf {w : rf_w} {m : rf_m} {a1 : Int32} {a2 : Int32} {r : Int32 × rf_m} (hg : g_X11_baseOf w m a1 a2 = some r) : rf_Con j_X11_baseOf 4 (rf_sh w) [.ref 0, .int a1, .int a2] (rf_MM w m) (some (.int r.1)) (rf_MM w r.2) := by
  refine rf_con j_X11_baseOf 4 ⟨by decide +kernel, rfl, Nat.le_of_ble_eq_true rfl⟩ (fun K C hE => ?_)
  unfold g_X11_baseOf at hg
  show rf_V 3 (rf_sh w) K 0 0 0 ([(0, .ref 0), (1, .int a1), (2, .int a2)], [], rf_MM w m)
  refine rf_seg C [(.aload 0, 1), (.invokeinterface 11 3, 3), (.iload 1, 1)] (pc' := 5) (S' := ([(0, .ref 0), (1, .int a1), (2, .int a2)], [.int a1, .ref 41], rf_MM w m)) (by decide +kernel) rfl trivial ?_
  obtain ⟨y0, m0, hc0, hg⟩ := rf_b_some hg
  refine rf_callv C rf_fit0 j_X6_isBase (ci := 6) (As := [.int a1]) (rest := []) mw_X6_isBase (c_X6_isBase hc0) (by decide) rfl (by decide) lk_11_297 rfl rfl (Nat.le_of_ble_eq_true rfl) (by decide +kernel) ?_
  show rf_V 3 (rf_sh w) K 0 0 8 ([(0, .ref 0), (1, .int a1), (2, .int a2)], [.int y0], rf_MM w m0)
  refine rf_if_ne C 5 13 (by decide +kernel) (fun hc => ?_) (fun hc => ?_)
  · replace hg := (if_neg hc).symm.trans hg
    refine rf_seg C [(.iload 2, 1)] (pc' := 14) (S' := ([(0, .ref 0), (1, .int a1), (2, .int a2)], [.int a2], rf_MM w m0)) (by decide +kernel) rfl trivial ?_
    by_cases ht0 : a2 = 0
    · replace hg := (if_pos ht0).symm.trans hg
      refine rf_tabc C ht0 48 (by decide +kernel) ?_
      refine rf_seg C [(.aload 0, 1), (.invokeinterface 11 3, 3), (.iload 1, 1)] (pc' := 53) (S' := ([(0, .ref 0), (1, .int a1), (2, .int a2)], [.int a1, .ref 41], rf_MM w m0)) (by decide +kernel) rfl trivial ?_
      obtain ⟨y1, m1, hc1, hg⟩ := rf_b_some hg
      refine rf_callv C rf_fit0 j_X6_lengthOf (ci := 6) (As := [.int a1]) (rest := []) mw_X6_lengthOf (c_X6_lengthOf hc1) (by decide) rfl (by decide) lk_11_310 rfl rfl (Nat.le_of_ble_eq_true rfl) (by decide +kernel) ?_
      show rf_V 3 (rf_sh w) K 0 0 56 ([(0, .ref 0), (1, .int a1), (2, .int a2)], [.int y1], rf_MM w m1)
      obtain rfl := Option.some.inj hg
      exact rf_iret C hE (by decide +kernel)
    · replace hg := (if_neg ht0).symm.trans hg
      by_cases ht1 : a2 = 1
      · replace hg := (if_pos ht1).symm.trans hg
        refine rf_tabc C ht1 57 (by decide +kernel) ?_
        obtain ⟨q2, hg⟩ := rf_g_some hg
        refine rf_seg C [(.aload 0, 1), (.invokeinterface 11 3, 3), (.invokeinterface 6 0, 3), (.iload 1, 1), (.iaload, 1)] (pc' := 66) (S' := ([(0, .ref 0), (1, .int a1), (2, .int a2)], [.int (m0.1 42 (Int32.toNatClampNeg a1))], rf_MM w m0)) (by decide +kernel) rfl (rf_in_of q2) ?_
        obtain rfl := Option.some.inj hg
        exact rf_iret C hE (by decide +kernel)
      · replace hg := (if_neg ht1).symm.trans hg
        by_cases ht2 : a2 = 2
        · replace hg := (if_pos ht2).symm.trans hg
          refine rf_tabc C ht2 67 (by decide +kernel) ?_
          refine rf_seg C [(.aload 0, 1), (.invokeinterface 11 3, 3), (.iload 1, 1)] (pc' := 72) (S' := ([(0, .ref 0), (1, .int a1), (2, .int a2)], [.int a1, .ref 41], rf_MM w m0)) (by decide +kernel) rfl trivial ?_
          obtain ⟨y3, m3, hc3, hg⟩ := rf_b_some hg
          refine rf_callv C rf_fit0 j_X6_leastOf (ci := 6) (As := [.int a1]) (rest := []) mw_X6_leastOf (c_X6_leastOf hc3) (by decide) rfl (by decide) lk_11_313 rfl rfl (Nat.le_of_ble_eq_true rfl) (by decide +kernel) ?_
          show rf_V 3 (rf_sh w) K 0 0 75 ([(0, .ref 0), (1, .int a1), (2, .int a2)], [.int y3], rf_MM w m3)
          obtain rfl := Option.some.inj hg
          exact rf_iret C hE (by decide +kernel)
        · replace hg := (if_neg ht2).symm.trans hg
          by_cases ht3 : a2 = 3
          · replace hg := (if_pos ht3).symm.trans hg
            refine rf_tabc C ht3 76 (by decide +kernel) ?_
            refine rf_seg C [(.aload 0, 1), (.invokeinterface 11 3, 3), (.iload 1, 1)] (pc' := 81) (S' := ([(0, .ref 0), (1, .int a1), (2, .int a2)], [.int a1, .ref 41], rf_MM w m0)) (by decide +kernel) rfl trivial ?_
            obtain ⟨y4, m4, hc4, hg⟩ := rf_b_some hg
            refine rf_callv C rf_fit0 j_X6_mostOf (ci := 6) (As := [.int a1]) (rest := []) mw_X6_mostOf (c_X6_mostOf hc4) (by decide) rfl (by decide) lk_11_316 rfl rfl (Nat.le_of_ble_eq_true rfl) (by decide +kernel) ?_
            show rf_V 3 (rf_sh w) K 0 0 84 ([(0, .ref 0), (1, .int a1), (2, .int a2)], [.int y4], rf_MM w m4)
            obtain rfl := Option.some.inj hg
            exact rf_iret C hE (by decide +kernel)
          · replace hg := (if_neg ht3).symm.trans hg
            by_cases ht4 : a2 = 4
            · replace hg := (if_pos ht4).symm.trans hg
              refine rf_tabc C ht4 85 (by decide +kernel) ?_
              refine rf_seg C [(.aload 0, 1), (.invokeinterface 11 3, 3), (.iload 1, 1)] (pc' := 90) (S' := ([(0, .ref 0), (1, .int a1), (2, .int a2)], [.int a1, .ref 41], rf_MM w m0)) (by decide +kernel) rfl trivial ?_
              obtain ⟨y5, m5, hc5, hg⟩ := rf_b_some hg
              refine rf_callv C rf_fit0 j_X6_laidAgain (ci := 6) (As := [.int a1]) (rest := []) mw_X6_laidAgain (c_X6_laidAgain hc5) (by decide) rfl (by decide) lk_11_319 rfl rfl (Nat.le_of_ble_eq_true rfl) (by decide +kernel) ?_
              show rf_V 3 (rf_sh w) K 0 0 93 ([(0, .ref 0), (1, .int a1), (2, .int a2)], [.int y5], rf_MM w m5)
              obtain rfl := Option.some.inj hg
              exact rf_iret C hE (by decide +kernel)
            · replace hg := (if_neg ht4).symm.trans hg
              refine rf_tabd C 0 4 94 (by decide +kernel) (by have t0 : (a2).toInt ≠ 0 := rf_ti ht0; have t1 : (a2).toInt ≠ 1 := rf_ti ht1; have t2 : (a2).toInt ≠ 2 := rf_ti ht2; have t3 : (a2).toInt ≠ 3 := rf_ti ht3; have t4 : (a2).toInt ≠ 4 := rf_ti ht4; omega) ?_
              refine rf_seg C [(.iconst (-1), 1)] (pc' := 95) (S' := ([(0, .ref 0), (1, .int a1), (2, .int a2)], [.int ((-1))], rf_MM w m0)) (by decide +kernel) rfl trivial ?_
              obtain rfl := Option.some.inj hg
              exact rf_iret C hE (by decide +kernel)
  · replace hg := (if_pos hc).symm.trans hg
    refine rf_seg C [(.iconst (-1), 1)] (pc' := 12) (S' := ([(0, .ref 0), (1, .int a1), (2, .int a2)], [.int ((-1))], rf_MM w m0)) (by decide +kernel) rfl trivial ?_
    obtain rfl := Option.some.inj hg
    exact rf_iret C hE (by decide +kernel)
-- X11_triangle
abbrev j_X11_triangle : rf_J := (11, yX11_triangle, cX11_triangle, 5, (some .int))
theorem mw_X11_triangle : rf_mv j_X11_triangle (rf_R 11) 4 := ⟨⟨rf_mem 57 (by decide +kernel), rf_mem 57 (by decide +kernel), rf_mem 0 (by decide +kernel), rf_mem 57 (by decide +kernel)⟩, by decide +kernel, by decide⟩
def g_X11_triangle (w : rf_w) (m : rf_m) (a1 : Int32) (a2 : Int32) (a3 : Int32) (a4 : Int32) : Option (Int32 × rf_m) := rf_b (g_X3_isAngle w m a1) fun y0 m0 => (if y0 = 0 then rf_b (g_X11_refused w m0 1) fun y1 m1 => some (y1, m1) else rf_b (g_X3_isAngle w m0 a2) fun y2 m2 => (if y2 = 0 then rf_b (g_X11_refused w m2 1) fun y3 m3 => some (y3, m3) else rf_b (g_X3_isAngle w m2 a3) fun y4 m4 => (if y4 = 0 then rf_b (g_X11_refused w m4 1) fun y12 m12 => some (y12, m12) else rf_b (g_X11_isWithin w m4 a4 0 9999) fun y5 m5 => (if y5 = 0 then rf_b (g_X11_refused w m5 2) fun y11 m11 => some (y11, m11) else rf_b (g_X7_isTriangular w m5 a1 a2 a3) fun y6 m6 => (if y6 = 0 then rf_b (g_X11_refused w m6 5) fun y10 m10 => some (y10, m10) else (if (m6.1 50 0) < 30 then rf_b (g_X7_addTriangle w m6 a1 a2 a3 a4) fun y7 m7 => rf_b (g_X11_answered w m7 y7) fun y8 m8 => some (y8, m8) else rf_b (g_X11_refused w m6 3) fun y9 m9 => some (y9, m9)))))))
theorem c_X11_triangle {w : rf_w} {m : rf_m} {a1 : Int32} {a2 : Int32} {a3 : Int32} {a4 : Int32} {r : Int32 × rf_m} (hg : g_X11_triangle w m a1 a2 a3 a4 = some r) : rf_Con j_X11_triangle 3 (rf_sh w) [.ref 0, .int a1, .int a2, .int a3, .int a4] (rf_MM w m) (some (.int r.1)) (rf_MM w r.2) := by
  refine rf_con j_X11_triangle 3 ⟨by decide +kernel, rfl, Nat.le_of_ble_eq_true rfl⟩ (fun K C hE => ?_)
  unfold g_X11_triangle at hg
  show rf_V 5 (rf_sh w) K 0 0 0 ([(0, .ref 0), (1, .int a1), (2, .int a2), (3, .int a3), (4, .int a4)], [], rf_MM w m)
  refine rf_seg C [(.aload 0, 1), (.invokeinterface 11 2, 3), (.iload 1, 1)] (pc' := 5) (S' := ([(0, .ref 0), (1, .int a1), (2, .int a2), (3, .int a3), (4, .int a4)], [.int a1, .ref 26], rf_MM w m)) (by decide +kernel) rfl trivial ?_
  obtain ⟨y0, m0, hc0, hg⟩ := rf_b_some hg
  refine rf_callv C rf_fit0 j_X3_isAngle (ci := 3) (As := [.int a1]) (rest := []) mw_X3_isAngle (c_X3_isAngle hc0) (by decide) rfl (by decide) lk_11_167 rfl rfl (Nat.le_of_ble_eq_true rfl) (by decide +kernel) ?_
  show rf_V 5 (rf_sh w) K 0 0 8 ([(0, .ref 0), (1, .int a1), (2, .int a2), (3, .int a3), (4, .int a4)], [.int y0], rf_MM w m0)
  refine rf_if_eq C 25 33 (by decide +kernel) (fun hc => ?_) (fun hc => ?_)
  · replace hg := (if_pos hc).symm.trans hg
    refine rf_seg C [(.aload 0, 1), (.iconst 1, 1)] (pc' := 35) (S' := ([(0, .ref 0), (1, .int a1), (2, .int a2), (3, .int a3), (4, .int a4)], [.int 1, .ref 0], rf_MM w m0)) (by decide +kernel) rfl trivial ?_
    obtain ⟨y1, m1, hc1, hg⟩ := rf_b_some hg
    refine rf_callv C rf_fit0 j_X11_refused (ci := 11) (As := [.int 1]) (rest := []) mw_X11_refused (c_X11_refused hc1) (by decide) rfl (by decide) lk_11_105 rfl rfl (Nat.le_of_ble_eq_true rfl) (by decide +kernel) ?_
    show rf_V 5 (rf_sh w) K 0 0 38 ([(0, .ref 0), (1, .int a1), (2, .int a2), (3, .int a3), (4, .int a4)], [.int y1], rf_MM w m1)
    obtain rfl := Option.some.inj hg
    exact rf_iret C hE (by decide +kernel)
  · replace hg := (if_neg hc).symm.trans hg
    refine rf_seg C [(.aload 0, 1), (.invokeinterface 11 2, 3), (.iload 2, 1)] (pc' := 16) (S' := ([(0, .ref 0), (1, .int a1), (2, .int a2), (3, .int a3), (4, .int a4)], [.int a2, .ref 26], rf_MM w m0)) (by decide +kernel) rfl trivial ?_
    obtain ⟨y2, m2, hc2, hg⟩ := rf_b_some hg
    refine rf_callv C rf_fit0 j_X3_isAngle (ci := 3) (As := [.int a2]) (rest := []) mw_X3_isAngle (c_X3_isAngle hc2) (by decide) rfl (by decide) lk_11_167 rfl rfl (Nat.le_of_ble_eq_true rfl) (by decide +kernel) ?_
    show rf_V 5 (rf_sh w) K 0 0 19 ([(0, .ref 0), (1, .int a1), (2, .int a2), (3, .int a3), (4, .int a4)], [.int y2], rf_MM w m2)
    refine rf_if_eq C 14 33 (by decide +kernel) (fun hc => ?_) (fun hc => ?_)
    · replace hg := (if_pos hc).symm.trans hg
      refine rf_seg C [(.aload 0, 1), (.iconst 1, 1)] (pc' := 35) (S' := ([(0, .ref 0), (1, .int a1), (2, .int a2), (3, .int a3), (4, .int a4)], [.int 1, .ref 0], rf_MM w m2)) (by decide +kernel) rfl trivial ?_
      obtain ⟨y3, m3, hc3, hg⟩ := rf_b_some hg
      refine rf_callv C rf_fit0 j_X11_refused (ci := 11) (As := [.int 1]) (rest := []) mw_X11_refused (c_X11_refused hc3) (by decide) rfl (by decide) lk_11_105 rfl rfl (Nat.le_of_ble_eq_true rfl) (by decide +kernel) ?_
      show rf_V 5 (rf_sh w) K 0 0 38 ([(0, .ref 0), (1, .int a1), (2, .int a2), (3, .int a3), (4, .int a4)], [.int y3], rf_MM w m3)
      obtain rfl := Option.some.inj hg
      exact rf_iret C hE (by decide +kernel)
    · replace hg := (if_neg hc).symm.trans hg
      refine rf_seg C [(.aload 0, 1), (.invokeinterface 11 2, 3), (.iload 3, 1)] (pc' := 27) (S' := ([(0, .ref 0), (1, .int a1), (2, .int a2), (3, .int a3), (4, .int a4)], [.int a3, .ref 26], rf_MM w m2)) (by decide +kernel) rfl trivial ?_
      obtain ⟨y4, m4, hc4, hg⟩ := rf_b_some hg
      refine rf_callv C rf_fit0 j_X3_isAngle (ci := 3) (As := [.int a3]) (rest := []) mw_X3_isAngle (c_X3_isAngle hc4) (by decide) rfl (by decide) lk_11_167 rfl rfl (Nat.le_of_ble_eq_true rfl) (by decide +kernel) ?_
      show rf_V 5 (rf_sh w) K 0 0 30 ([(0, .ref 0), (1, .int a1), (2, .int a2), (3, .int a3), (4, .int a4)], [.int y4], rf_MM w m4)
      refine rf_if_ne C 9 39 (by decide +kernel) (fun hc => ?_) (fun hc => ?_)
      · replace hg := (if_neg hc).symm.trans hg
        refine rf_seg C [(.iload 4, 2), (.iconst 0, 1), (.iconst 9999, 3)] (pc' := 45) (S' := ([(0, .ref 0), (1, .int a1), (2, .int a2), (3, .int a3), (4, .int a4)], [.int 9999, .int 0, .int a4], rf_MM w m4)) (by decide +kernel) rfl trivial ?_
        obtain ⟨y5, m5, hc5, hg⟩ := rf_b_some hg
        refine rf_calls C rf_fit0 j_X11_isWithin (As := [.int a4, .int 0, .int 9999]) (rest := []) mw_X11_isWithin (c_X11_isWithin hc5) (by decide) lk_11_91 rfl rfl (Nat.le_of_ble_eq_true rfl) (by decide +kernel) ?_
        show rf_V 5 (rf_sh w) K 0 0 48 ([(0, .ref 0), (1, .int a1), (2, .int a2), (3, .int a3), (4, .int a4)], [.int y5], rf_MM w m5)
        refine rf_if_ne C 9 57 (by decide +kernel) (fun hc => ?_) (fun hc => ?_)
        · replace hg := (if_neg hc).symm.trans hg
          refine rf_seg C [(.aload 0, 1), (.invokeinterface 11 4, 3), (.iload 1, 1), (.iload 2, 1), (.iload 3, 1)] (pc' := 64) (S' := ([(0, .ref 0), (1, .int a1), (2, .int a2), (3, .int a3), (4, .int a4)], [.int a3, .int a2, .int a1, .ref 50], rf_MM w m5)) (by decide +kernel) rfl trivial ?_
          obtain ⟨y6, m6, hc6, hg⟩ := rf_b_some hg
          refine rf_callv C rf_fit0 j_X7_isTriangular (ci := 7) (As := [.int a1, .int a2, .int a3]) (rest := []) mw_X7_isTriangular (c_X7_isTriangular hc6) (by decide) rfl (by decide) lk_11_322 rfl rfl (Nat.le_of_ble_eq_true rfl) (by decide +kernel) ?_
          show rf_V 5 (rf_sh w) K 0 0 67 ([(0, .ref 0), (1, .int a1), (2, .int a2), (3, .int a3), (4, .int a4)], [.int y6], rf_MM w m6)
          refine rf_if_ne C 9 76 (by decide +kernel) (fun hc => ?_) (fun hc => ?_)
          · replace hg := (if_neg hc).symm.trans hg
            refine rf_seg C [(.aload 0, 1), (.invokeinterface 11 4, 3), (.invokeinterface 7 0, 3), (.iconst 30, 2)] (pc' := 85) (S' := ([(0, .ref 0), (1, .int a1), (2, .int a2), (3, .int a3), (4, .int a4)], [.int 30, .int (m6.1 50 0)], rf_MM w m6)) (by decide +kernel) rfl trivial ?_
            refine rf_icmp_lt C 9 94 (by decide +kernel) (fun hc => ?_) (fun hc => ?_)
            · replace hg := (if_pos hc).symm.trans hg
              refine rf_seg C [(.aload 0, 1), (.aload 0, 1), (.invokeinterface 11 4, 3), (.iload 1, 1), (.iload 2, 1), (.iload 3, 1), (.iload 4, 2)] (pc' := 104) (S' := ([(0, .ref 0), (1, .int a1), (2, .int a2), (3, .int a3), (4, .int a4)], [.int a4, .int a3, .int a2, .int a1, .ref 50, .ref 0], rf_MM w m6)) (by decide +kernel) rfl trivial ?_
              obtain ⟨y7, m7, hc7, hg⟩ := rf_b_some hg
              refine rf_callv C rf_fit0 j_X7_addTriangle (ci := 7) (As := [.int a1, .int a2, .int a3, .int a4]) (rest := [.ref 0]) mw_X7_addTriangle (c_X7_addTriangle hc7) (by decide) rfl (by decide) lk_11_328 rfl rfl (Nat.le_of_ble_eq_true rfl) (by decide +kernel) ?_
              show rf_V 5 (rf_sh w) K 0 0 107 ([(0, .ref 0), (1, .int a1), (2, .int a2), (3, .int a3), (4, .int a4)], [.int y7, .ref 0], rf_MM w m7)
              obtain ⟨y8, m8, hc8, hg⟩ := rf_b_some hg
              refine rf_callv C rf_fit0 j_X11_answered (ci := 11) (As := [.int y7]) (rest := []) mw_X11_answered (c_X11_answered hc8) (by decide) rfl (by decide) lk_11_119 rfl rfl (Nat.le_of_ble_eq_true rfl) (by decide +kernel) ?_
              show rf_V 5 (rf_sh w) K 0 0 110 ([(0, .ref 0), (1, .int a1), (2, .int a2), (3, .int a3), (4, .int a4)], [.int y8], rf_MM w m8)
              obtain rfl := Option.some.inj hg
              exact rf_iret C hE (by decide +kernel)
            · replace hg := (if_neg hc).symm.trans hg
              refine rf_seg C [(.aload 0, 1), (.iconst 3, 1)] (pc' := 90) (S' := ([(0, .ref 0), (1, .int a1), (2, .int a2), (3, .int a3), (4, .int a4)], [.int 3, .ref 0], rf_MM w m6)) (by decide +kernel) rfl trivial ?_
              obtain ⟨y9, m9, hc9, hg⟩ := rf_b_some hg
              refine rf_callv C rf_fit0 j_X11_refused (ci := 11) (As := [.int 3]) (rest := []) mw_X11_refused (c_X11_refused hc9) (by decide) rfl (by decide) lk_11_105 rfl rfl (Nat.le_of_ble_eq_true rfl) (by decide +kernel) ?_
              show rf_V 5 (rf_sh w) K 0 0 93 ([(0, .ref 0), (1, .int a1), (2, .int a2), (3, .int a3), (4, .int a4)], [.int y9], rf_MM w m9)
              obtain rfl := Option.some.inj hg
              exact rf_iret C hE (by decide +kernel)
          · replace hg := (if_pos hc).symm.trans hg
            refine rf_seg C [(.aload 0, 1), (.iconst 5, 1)] (pc' := 72) (S' := ([(0, .ref 0), (1, .int a1), (2, .int a2), (3, .int a3), (4, .int a4)], [.int 5, .ref 0], rf_MM w m6)) (by decide +kernel) rfl trivial ?_
            obtain ⟨y10, m10, hc10, hg⟩ := rf_b_some hg
            refine rf_callv C rf_fit0 j_X11_refused (ci := 11) (As := [.int 5]) (rest := []) mw_X11_refused (c_X11_refused hc10) (by decide) rfl (by decide) lk_11_105 rfl rfl (Nat.le_of_ble_eq_true rfl) (by decide +kernel) ?_
            show rf_V 5 (rf_sh w) K 0 0 75 ([(0, .ref 0), (1, .int a1), (2, .int a2), (3, .int a3), (4, .int a4)], [.int y10], rf_MM w m10)
            obtain rfl := Option.some.inj hg
            exact rf_iret C hE (by decide +kernel)
        · replace hg := (if_pos hc).symm.trans hg
          refine rf_seg C [(.aload 0, 1), (.iconst 2, 1)] (pc' := 53) (S' := ([(0, .ref 0), (1, .int a1), (2, .int a2), (3, .int a3), (4, .int a4)], [.int 2, .ref 0], rf_MM w m5)) (by decide +kernel) rfl trivial ?_
          obtain ⟨y11, m11, hc11, hg⟩ := rf_b_some hg
          refine rf_callv C rf_fit0 j_X11_refused (ci := 11) (As := [.int 2]) (rest := []) mw_X11_refused (c_X11_refused hc11) (by decide) rfl (by decide) lk_11_105 rfl rfl (Nat.le_of_ble_eq_true rfl) (by decide +kernel) ?_
          show rf_V 5 (rf_sh w) K 0 0 56 ([(0, .ref 0), (1, .int a1), (2, .int a2), (3, .int a3), (4, .int a4)], [.int y11], rf_MM w m11)
          obtain rfl := Option.some.inj hg
          exact rf_iret C hE (by decide +kernel)
      · replace hg := (if_pos hc).symm.trans hg
        refine rf_seg C [(.aload 0, 1), (.iconst 1, 1)] (pc' := 35) (S' := ([(0, .ref 0), (1, .int a1), (2, .int a2), (3, .int a3), (4, .int a4)], [.int 1, .ref 0], rf_MM w m4)) (by decide +kernel) rfl trivial ?_
        obtain ⟨y12, m12, hc12, hg⟩ := rf_b_some hg
        refine rf_callv C rf_fit0 j_X11_refused (ci := 11) (As := [.int 1]) (rest := []) mw_X11_refused (c_X11_refused hc12) (by decide) rfl (by decide) lk_11_105 rfl rfl (Nat.le_of_ble_eq_true rfl) (by decide +kernel) ?_
        show rf_V 5 (rf_sh w) K 0 0 38 ([(0, .ref 0), (1, .int a1), (2, .int a2), (3, .int a3), (4, .int a4)], [.int y12], rf_MM w m12)
        obtain rfl := Option.some.inj hg
        exact rf_iret C hE (by decide +kernel)
-- X11_isAhead__205
abbrev j_X11_isAhead__205 : rf_J := (11, yX11_isAhead, cX11_isAhead, 3, (some .boolean))
theorem mw_X11_isAhead__205 : rf_ms j_X11_isAhead__205 2 := ⟨⟨rf_mem 59 (by decide +kernel), rf_mem 0 (by decide +kernel), rf_mem 59 (by decide +kernel)⟩, by decide +kernel, by decide⟩
def g_X11_isAhead__205_2_b (w : rf_w) (rec2 : Int32 → Int32 → rf_m → Option (Int32 × rf_m)) (a1 : Int32) (a2 : Int32) (m : rf_m) : Option (Int32 × rf_m) := (if a1 ≤ a2 then some (0, m) else rf_g (rf_in a2 6) (rf_g (rf_in a1 6) ((if (m.1 205 (Int32.toNatClampNeg a2)) = (m.1 205 (Int32.toNatClampNeg a1)) then some (1, m) else rec2 a1 (a2 + 1) m))))
def g_X11_isAhead__205_2 (w : rf_w) : Nat → Int32 → Int32 → rf_m → Option (Int32 × rf_m)
  | 0, _, _, _ => none
  | n + 1, a1, a2, m => g_X11_isAhead__205_2_b w (g_X11_isAhead__205_2 w n) a1 a2 m
def g_X11_isAhead__205 (w : rf_w) (m : rf_m) (a1 : Int32) : Option (Int32 × rf_m) := g_X11_isAhead__205_2 w rf_fuel a1 0 m
theorem s_X11_isAhead__205_2_b {w : rf_w} {K : rf_K} {r : Int32 × rf_m} (C : rf_Ctx 11 cX11_isAhead 3 1 (rf_sh w) K) (hE : rf_End (some .boolean) K (rf_sh w) 0 0 (some (.int r.1)) (rf_MM w r.2)) {rec2 : Int32 → Int32 → rf_m → Option (Int32 × rf_m)} (hr2 : ∀ (a1 : Int32) (a2 : Int32) (m : rf_m), rec2 a1 a2 m = some r → rf_V 3 (rf_sh w) K 0 0 2 ([(0, .ref 205), (1, .int a1), (2, .int a2)], [], rf_MM w m)) (a1 : Int32) (a2 : Int32) (m : rf_m) (hg : g_X11_isAhead__205_2_b w rec2 a1 a2 m = some r) : rf_V 3 (rf_sh w) K 0 0 2 ([(0, .ref 205), (1, .int a1), (2, .int a2)], [], rf_MM w m) := by
  unfold g_X11_isAhead__205_2_b at hg
  refine rf_seg C [(.iload 2, 1), (.iload 1, 1)] (pc' := 4) (S' := ([(0, .ref 205), (1, .int a1), (2, .int a2)], [.int a1, .int a2], rf_MM w m)) (by decide +kernel) rfl trivial ?_
  refine rf_icmp_ge C 20 24 (by decide +kernel) (fun hc => ?_) (fun hc => ?_)
  · replace hg := (if_pos hc).symm.trans hg
    refine rf_seg C [(.iconst 0, 1)] (pc' := 25) (S' := ([(0, .ref 205), (1, .int a1), (2, .int a2)], [.int 0], rf_MM w m)) (by decide +kernel) rfl trivial ?_
    obtain rfl := Option.some.inj hg
    exact rf_zret C hE (by decide) (by decide +kernel)
  · replace hg := (if_neg hc).symm.trans hg
    obtain ⟨q0, hg⟩ := rf_g_some hg
    obtain ⟨q1, hg⟩ := rf_g_some hg
    refine rf_seg C [(.aload 0, 1), (.iload 2, 1), (.iaload, 1), (.aload 0, 1), (.iload 1, 1), (.iaload, 1)] (pc' := 13) (S' := ([(0, .ref 205), (1, .int a1), (2, .int a2)], [.int (m.1 205 (Int32.toNatClampNeg a1)), .int (m.1 205 (Int32.toNatClampNeg a2))], rf_MM w m)) (by decide +kernel) rfl (by exact ⟨(rf_in_of q0), (rf_in_of q1)⟩) ?_
    refine rf_icmp_ne C 5 18 (by decide +kernel) (fun hc => ?_) (fun hc => ?_)
    · replace hg := (if_neg hc).symm.trans hg
      refine rf_seg C [(.iinc 2 1, 3)] (pc' := 21) (S' := ([(2, .int (a2 + 1)), (0, .ref 205), (1, .int a1)], [], rf_MM w m)) (by decide +kernel) rfl trivial ?_
      refine rf_goto C (-19) 2 (by decide +kernel) ?_
      refine rf_few [1, 2, 0] rfl ?_
      exact hr2 a1 (a2 + 1) m hg
    · replace hg := (if_pos hc).symm.trans hg
      refine rf_seg C [(.iconst 1, 1)] (pc' := 17) (S' := ([(0, .ref 205), (1, .int a1), (2, .int a2)], [.int 1], rf_MM w m)) (by decide +kernel) rfl trivial ?_
      obtain rfl := Option.some.inj hg
      exact rf_zret C hE (by decide) (by decide +kernel)
theorem s_X11_isAhead__205_2 {w : rf_w} {K : rf_K} {r : Int32 × rf_m} (C : rf_Ctx 11 cX11_isAhead 3 1 (rf_sh w) K) (hE : rf_End (some .boolean) K (rf_sh w) 0 0 (some (.int r.1)) (rf_MM w r.2)) (n : Nat) : ∀ (a1 : Int32) (a2 : Int32) (m : rf_m), g_X11_isAhead__205_2 w n a1 a2 m = some r → rf_V 3 (rf_sh w) K 0 0 2 ([(0, .ref 205), (1, .int a1), (2, .int a2)], [], rf_MM w m) := by
  induction n with
  | zero => intro a1 a2 m hg; cases hg
  | succ n ih => intro a1 a2 m hg; exact s_X11_isAhead__205_2_b C hE ih a1 a2 m hg
theorem c_X11_isAhead__205 {w : rf_w} {m : rf_m} {a1 : Int32} {r : Int32 × rf_m} (hg : g_X11_isAhead__205 w m a1 = some r) : rf_Con j_X11_isAhead__205 1 (rf_sh w) [.ref 205, .int a1] (rf_MM w m) (some (.int r.1)) (rf_MM w r.2) := by
  refine rf_con j_X11_isAhead__205 1 ⟨by decide +kernel, rfl, Nat.le_of_ble_eq_true rfl⟩ (fun K C hE => ?_)
  unfold g_X11_isAhead__205 at hg
  show rf_V 3 (rf_sh w) K 0 0 0 ([(0, .ref 205), (1, .int a1)], [], rf_MM w m)
  refine rf_seg C [(.iconst 0, 1), (.istore 2, 1)] (pc' := 2) (S' := ([(2, .int 0), (0, .ref 205), (1, .int a1)], [], rf_MM w m)) (by decide +kernel) rfl trivial ?_
  refine rf_few [1, 2, 0] rfl ?_
  exact s_X11_isAhead__205_2 C hE rf_fuel a1 0 m hg
-- X7_goesRound__205
abbrev j_X7_goesRound__205 : rf_J := (7, yX7_goesRound, cX7_goesRound, 5, (some .boolean))
theorem mw_X7_goesRound__205 : rf_mv j_X7_goesRound__205 (rf_R 7) 2 := ⟨⟨rf_mem 59 (by decide +kernel), rf_mem 59 (by decide +kernel), rf_mem 1 (by decide +kernel), rf_mem 59 (by decide +kernel)⟩, by decide +kernel, by decide⟩
def g_X7_goesRound__205_16_b (w : rf_w) (rec16 : Int32 → Int32 → Int32 → rf_m → Option (Int32 × rf_m)) (a2 : Int32) (a3 : Int32) (a4 : Int32) (m : rf_m) : Option (Int32 × rf_m) := (if a2 ≤ a4 then some (1, m) else rf_g (rf_in a4 6) (rf_g (rf_in (m.1 205 (Int32.toNatClampNeg a4)) 80) (rf_g (rf_in a3 80) ((if (m.1 28 (Int32.toNatClampNeg (m.1 205 (Int32.toNatClampNeg a4)))) = (m.1 28 (Int32.toNatClampNeg a3)) then rf_g (rf_in a4 6) (rf_g (rf_in (m.1 205 (Int32.toNatClampNeg a4)) 80) (rf_g (rf_in a3 80) ((if (m.1 29 (Int32.toNatClampNeg (m.1 205 (Int32.toNatClampNeg a4)))) = (m.1 30 (Int32.toNatClampNeg a3)) then rf_b (g_X11_isAhead__205 w m a4) fun y6 m6 => (if y6 = 0 then rf_g (rf_in a4 6) (rf_vi (m6.1 205 (Int32.toNatClampNeg a4)) fun x8 => rec16 a2 x8 (a4 + 1) m6) else some (0, m6)) else some (0, m))))) else some (0, m))))))
def g_X7_goesRound__205_16 (w : rf_w) : Nat → Int32 → Int32 → Int32 → rf_m → Option (Int32 × rf_m)
  | 0, _, _, _, _ => none
  | n + 1, a2, a3, a4, m => g_X7_goesRound__205_16_b w (g_X7_goesRound__205_16 w n) a2 a3 a4 m
def g_X7_goesRound__205 (w : rf_w) (m : rf_m) (a2 : Int32) : Option (Int32 × rf_m) := (if 2 ≤ a2 then rf_g (rf_in (a2 - 1) 6) (rf_vi (m.1 205 (Int32.toNatClampNeg (a2 - 1))) fun x1 => g_X7_goesRound__205_16 w rf_fuel a2 x1 0 m) else some (0, m))
theorem s_X7_goesRound__205_16_b {w : rf_w} {K : rf_K} {r : Int32 × rf_m} (C : rf_Ctx 7 cX7_goesRound 5 2 (rf_sh w) K) (hE : rf_End (some .boolean) K (rf_sh w) 0 0 (some (.int r.1)) (rf_MM w r.2)) {rec16 : Int32 → Int32 → Int32 → rf_m → Option (Int32 × rf_m)} (hr16 : ∀ (a2 : Int32) (a3 : Int32) (a4 : Int32) (m : rf_m), rec16 a2 a3 a4 m = some r → rf_V 5 (rf_sh w) K 0 0 16 ([(0, .ref 50), (1, .ref 205), (2, .int a2), (3, .int a3), (4, .int a4)], [], rf_MM w m)) (a2 : Int32) (a3 : Int32) (a4 : Int32) (m : rf_m) (hg : g_X7_goesRound__205_16_b w rec16 a2 a3 a4 m = some r) : rf_V 5 (rf_sh w) K 0 0 16 ([(0, .ref 50), (1, .ref 205), (2, .int a2), (3, .int a3), (4, .int a4)], [], rf_MM w m) := by
  unfold g_X7_goesRound__205_16_b at hg
  refine rf_seg C [(.iload 4, 2), (.iload 2, 1)] (pc' := 19) (S' := ([(0, .ref 50), (1, .ref 205), (2, .int a2), (3, .int a3), (4, .int a4)], [.int a2, .int a4], rf_MM w m)) (by decide +kernel) rfl trivial ?_
  refine rf_icmp_ge C 73 92 (by decide +kernel) (fun hc => ?_) (fun hc => ?_)
  · replace hg := (if_pos hc).symm.trans hg
    refine rf_seg C [(.iconst 1, 1)] (pc' := 93) (S' := ([(0, .ref 50), (1, .ref 205), (2, .int a2), (3, .int a3), (4, .int a4)], [.int 1], rf_MM w m)) (by decide +kernel) rfl trivial ?_
    obtain rfl := Option.some.inj hg
    exact rf_zret C hE (by decide) (by decide +kernel)
  · replace hg := (if_neg hc).symm.trans hg
    obtain ⟨q0, hg⟩ := rf_g_some hg
    obtain ⟨q1, hg⟩ := rf_g_some hg
    obtain ⟨q2, hg⟩ := rf_g_some hg
    refine rf_seg C [(.aload 0, 1), (.invokeinterface 7 2, 3), (.invokeinterface 3 1, 3), (.aload 1, 1), (.iload 4, 2), (.iaload, 1), (.iaload, 1), (.aload 0, 1), (.invokeinterface 7 2, 3), (.invokeinterface 3 1, 3), (.iload 3, 1), (.iaload, 1)] (pc' := 43) (S' := ([(0, .ref 50), (1, .ref 205), (2, .int a2), (3, .int a3), (4, .int a4)], [.int (m.1 28 (Int32.toNatClampNeg a3)), .int (m.1 28 (Int32.toNatClampNeg (m.1 205 (Int32.toNatClampNeg a4))))], rf_MM w m)) (by decide +kernel) rfl (by exact ⟨(rf_in_of q0), (rf_in_of q1), (rf_in_of q2)⟩) ?_
    refine rf_icmp_ne C 36 79 (by decide +kernel) (fun hc => ?_) (fun hc => ?_)
    · replace hg := (if_neg hc).symm.trans hg
      refine rf_seg C [(.iconst 0, 1)] (pc' := 80) (S' := ([(0, .ref 50), (1, .ref 205), (2, .int a2), (3, .int a3), (4, .int a4)], [.int 0], rf_MM w m)) (by decide +kernel) rfl trivial ?_
      obtain rfl := Option.some.inj hg
      exact rf_zret C hE (by decide) (by decide +kernel)
    · replace hg := (if_pos hc).symm.trans hg
      obtain ⟨q3, hg⟩ := rf_g_some hg
      obtain ⟨q4, hg⟩ := rf_g_some hg
      obtain ⟨q5, hg⟩ := rf_g_some hg
      refine rf_seg C [(.aload 0, 1), (.invokeinterface 7 2, 3), (.invokeinterface 3 2, 3), (.aload 1, 1), (.iload 4, 2), (.iaload, 1), (.iaload, 1), (.aload 0, 1), (.invokeinterface 7 2, 3), (.invokeinterface 3 3, 3), (.iload 3, 1), (.iaload, 1)] (pc' := 67) (S' := ([(0, .ref 50), (1, .ref 205), (2, .int a2), (3, .int a3), (4, .int a4)], [.int (m.1 30 (Int32.toNatClampNeg a3)), .int (m.1 29 (Int32.toNatClampNeg (m.1 205 (Int32.toNatClampNeg a4))))], rf_MM w m)) (by decide +kernel) rfl (by exact ⟨(rf_in_of q3), (rf_in_of q4), (rf_in_of q5)⟩) ?_
      refine rf_icmp_ne C 12 79 (by decide +kernel) (fun hc => ?_) (fun hc => ?_)
      · replace hg := (if_neg hc).symm.trans hg
        refine rf_seg C [(.iconst 0, 1)] (pc' := 80) (S' := ([(0, .ref 50), (1, .ref 205), (2, .int a2), (3, .int a3), (4, .int a4)], [.int 0], rf_MM w m)) (by decide +kernel) rfl trivial ?_
        obtain rfl := Option.some.inj hg
        exact rf_zret C hE (by decide) (by decide +kernel)
      · replace hg := (if_pos hc).symm.trans hg
        refine rf_seg C [(.aload 1, 1), (.iload 4, 2)] (pc' := 73) (S' := ([(0, .ref 50), (1, .ref 205), (2, .int a2), (3, .int a3), (4, .int a4)], [.int a4, .ref 205], rf_MM w m)) (by decide +kernel) rfl trivial ?_
        obtain ⟨y6, m6, hc6, hg⟩ := rf_b_some hg
        refine rf_callsN C rf_fit0 j_X11_isAhead__205 (As := [.ref 205, .int a4]) (rest := []) mw_X11_isAhead__205 (c_X11_isAhead__205 hc6) (by decide) lk_7_47 rfl rfl (Nat.le_of_ble_eq_true rfl) (by decide +kernel) ?_
        show rf_V 5 (rf_sh w) K 0 0 76 ([(0, .ref 50), (1, .ref 205), (2, .int a2), (3, .int a3), (4, .int a4)], [.int y6], rf_MM w m6)
        refine rf_if_eq C 5 81 (by decide +kernel) (fun hc => ?_) (fun hc => ?_)
        · replace hg := (if_pos hc).symm.trans hg
          obtain ⟨q7, hg⟩ := rf_g_some hg
          refine rf_seg C [(.aload 1, 1), (.iload 4, 2), (.iaload, 1)] (pc' := 85) (S' := ([(0, .ref 50), (1, .ref 205), (2, .int a2), (3, .int a3), (4, .int a4)], [.int (m6.1 205 (Int32.toNatClampNeg a4))], rf_MM w m6)) (by decide +kernel) rfl (rf_in_of q7) ?_
          obtain ⟨x8, hx8, hg⟩ := rf_vi_some hg
          refine rf_vi_top hx8 ?_
          refine rf_seg C [(.istore 3, 1), (.iinc 4 1, 3)] (pc' := 89) (S' := ([(4, .int (a4 + 1)), (3, .int x8), (0, .ref 50), (1, .ref 205), (2, .int a2)], [], rf_MM w m6)) (by decide +kernel) rfl trivial ?_
          refine rf_goto C (-73) 16 (by decide +kernel) ?_
          refine rf_few [2, 3, 4, 1, 0] rfl ?_
          exact hr16 a2 x8 (a4 + 1) m6 hg
        · replace hg := (if_neg hc).symm.trans hg
          refine rf_seg C [(.iconst 0, 1)] (pc' := 80) (S' := ([(0, .ref 50), (1, .ref 205), (2, .int a2), (3, .int a3), (4, .int a4)], [.int 0], rf_MM w m6)) (by decide +kernel) rfl trivial ?_
          obtain rfl := Option.some.inj hg
          exact rf_zret C hE (by decide) (by decide +kernel)
theorem s_X7_goesRound__205_16 {w : rf_w} {K : rf_K} {r : Int32 × rf_m} (C : rf_Ctx 7 cX7_goesRound 5 2 (rf_sh w) K) (hE : rf_End (some .boolean) K (rf_sh w) 0 0 (some (.int r.1)) (rf_MM w r.2)) (n : Nat) : ∀ (a2 : Int32) (a3 : Int32) (a4 : Int32) (m : rf_m), g_X7_goesRound__205_16 w n a2 a3 a4 m = some r → rf_V 5 (rf_sh w) K 0 0 16 ([(0, .ref 50), (1, .ref 205), (2, .int a2), (3, .int a3), (4, .int a4)], [], rf_MM w m) := by
  induction n with
  | zero => intro a2 a3 a4 m hg; cases hg
  | succ n ih => intro a2 a3 a4 m hg; exact s_X7_goesRound__205_16_b C hE ih a2 a3 a4 m hg
theorem c_X7_goesRound__205 {w : rf_w} {m : rf_m} {a2 : Int32} {r : Int32 × rf_m} (hg : g_X7_goesRound__205 w m a2 = some r) : rf_Con j_X7_goesRound__205 2 (rf_sh w) [.ref 50, .ref 205, .int a2] (rf_MM w m) (some (.int r.1)) (rf_MM w r.2) := by
  refine rf_con j_X7_goesRound__205 2 ⟨by decide +kernel, rfl, Nat.le_of_ble_eq_true rfl⟩ (fun K C hE => ?_)
  unfold g_X7_goesRound__205 at hg
  show rf_V 5 (rf_sh w) K 0 0 0 ([(0, .ref 50), (1, .ref 205), (2, .int a2)], [], rf_MM w m)
  refine rf_seg C [(.iload 2, 1), (.iconst 2, 1)] (pc' := 2) (S' := ([(0, .ref 50), (1, .ref 205), (2, .int a2)], [.int 2, .int a2], rf_MM w m)) (by decide +kernel) rfl trivial ?_
  refine rf_icmp_ge C 5 7 (by decide +kernel) (fun hc => ?_) (fun hc => ?_)
  · replace hg := (if_pos hc).symm.trans hg
    obtain ⟨q0, hg⟩ := rf_g_some hg
    refine rf_seg C [(.aload 1, 1), (.iload 2, 1), (.iconst 1, 1), (.isub, 1), (.iaload, 1)] (pc' := 12) (S' := ([(0, .ref 50), (1, .ref 205), (2, .int a2)], [.int (m.1 205 (Int32.toNatClampNeg (a2 - 1)))], rf_MM w m)) (by decide +kernel) rfl (rf_in_of q0) ?_
    obtain ⟨x1, hx1, hg⟩ := rf_vi_some hg
    refine rf_vi_top hx1 ?_
    refine rf_seg C [(.istore 3, 1), (.iconst 0, 1), (.istore 4, 2)] (pc' := 16) (S' := ([(4, .int 0), (3, .int x1), (0, .ref 50), (1, .ref 205), (2, .int a2)], [], rf_MM w m)) (by decide +kernel) rfl trivial ?_
    refine rf_few [2, 3, 4, 1, 0] rfl ?_
    exact s_X7_goesRound__205_16 C hE rf_fuel a2 x1 0 m hg
  · replace hg := (if_neg hc).symm.trans hg
    refine rf_seg C [(.iconst 0, 1)] (pc' := 6) (S' := ([(0, .ref 50), (1, .ref 205), (2, .int a2)], [.int 0], rf_MM w m)) (by decide +kernel) rfl trivial ?_
    obtain rfl := Option.some.inj hg
    exact rf_zret C hE (by decide) (by decide +kernel)
-- X7_addRound__205
abbrev j_X7_addRound__205 : rf_J := (7, yX7_addRound, cX7_addRound, 3, (some .int))
theorem mw_X7_addRound__205 : rf_mv j_X7_addRound__205 (rf_R 7) 2 := ⟨⟨rf_mem 59 (by decide +kernel), rf_mem 59 (by decide +kernel), rf_mem 1 (by decide +kernel), rf_mem 59 (by decide +kernel)⟩, by decide +kernel, by decide⟩
def g_X7_addRound__205 (w : rf_w) (m : rf_m) (a2 : Int32) : Option (Int32 × rf_m) := rf_g (rf_cg 0 ((m.1 50 1) * 6) a2 6 72) (rf_g (rf_in ((rf_ci m 205 53 0 ((m.1 50 1) * 6) a2).1 50 1) 12) (some (((rf_i (rf_i (rf_ci m 205 53 0 ((m.1 50 1) * 6) a2) 54 (Int32.toNatClampNeg ((rf_ci m 205 53 0 ((m.1 50 1) * 6) a2).1 50 1)) a2) 50 1 (((rf_i (rf_ci m 205 53 0 ((m.1 50 1) * 6) a2) 54 (Int32.toNatClampNeg ((rf_ci m 205 53 0 ((m.1 50 1) * 6) a2).1 50 1)) a2).1 50 1) + 1)).1 50 1) - 1, rf_i (rf_i (rf_ci m 205 53 0 ((m.1 50 1) * 6) a2) 54 (Int32.toNatClampNeg ((rf_ci m 205 53 0 ((m.1 50 1) * 6) a2).1 50 1)) a2) 50 1 (((rf_i (rf_ci m 205 53 0 ((m.1 50 1) * 6) a2) 54 (Int32.toNatClampNeg ((rf_ci m 205 53 0 ((m.1 50 1) * 6) a2).1 50 1)) a2).1 50 1) + 1))))
theorem c_X7_addRound__205 {w : rf_w} {m : rf_m} {a2 : Int32} {r : Int32 × rf_m} (hg : g_X7_addRound__205 w m a2 = some r) : rf_Con j_X7_addRound__205 1 (rf_sh w) [.ref 50, .ref 205, .int a2] (rf_MM w m) (some (.int r.1)) (rf_MM w r.2) := by
  refine rf_con j_X7_addRound__205 1 ⟨by decide +kernel, rfl, Nat.le_of_ble_eq_true rfl⟩ (fun K C hE => ?_)
  unfold g_X7_addRound__205 at hg
  show rf_V 3 (rf_sh w) K 0 0 0 ([(0, .ref 50), (1, .ref 205), (2, .int a2)], [], rf_MM w m)
  refine rf_seg C [(.aload 1, 1), (.iconst 0, 1), (.aload 0, 1), (.invokeinterface 7 5, 3), (.aload 0, 1), (.invokeinterface 7 1, 3), (.iconst 6, 2), (.imul, 1), (.iload 2, 1)] (pc' := 14) (S' := ([(0, .ref 50), (1, .ref 205), (2, .int a2)], [.int a2, .int ((m.1 50 1) * 6), .ref 53, .int 0, .ref 205], rf_MM w m)) (by decide +kernel) rfl trivial ?_
  obtain ⟨q0, hg⟩ := rf_g_some hg
  refine rf_copyi C (by decide) (n0 := 6) (n1 := 72) lk_7_54 rfl rfl q0 (Nat.le_of_ble_eq_true rfl) (by decide +kernel) ?_
  show rf_V 3 (rf_sh w) K 0 0 17 ([(0, .ref 50), (1, .ref 205), (2, .int a2)], [], rf_MM w (rf_ci m 205 53 0 ((m.1 50 1) * 6) a2))
  obtain ⟨q1, hg⟩ := rf_g_some hg
  refine rf_seg C [(.aload 0, 1), (.invokeinterface 7 6, 3), (.aload 0, 1), (.invokeinterface 7 1, 3), (.iload 2, 1), (.iastore, 1), (.aload 0, 1), (.dup, 1), (.invokeinterface 7 1, 3), (.iconst 1, 1), (.iadd, 1), (.multianewarray 7 1, 3), (.aload 0, 1), (.invokeinterface 7 1, 3), (.iconst 1, 1), (.isub, 1)] (pc' := 43) (S' := ([(0, .ref 50), (1, .ref 205), (2, .int a2)], [.int (((rf_i (rf_i (rf_ci m 205 53 0 ((m.1 50 1) * 6) a2) 54 (Int32.toNatClampNeg ((rf_ci m 205 53 0 ((m.1 50 1) * 6) a2).1 50 1)) a2) 50 1 (((rf_i (rf_ci m 205 53 0 ((m.1 50 1) * 6) a2) 54 (Int32.toNatClampNeg ((rf_ci m 205 53 0 ((m.1 50 1) * 6) a2).1 50 1)) a2).1 50 1) + 1)).1 50 1) - 1)], rf_MM w (rf_i (rf_i (rf_ci m 205 53 0 ((m.1 50 1) * 6) a2) 54 (Int32.toNatClampNeg ((rf_ci m 205 53 0 ((m.1 50 1) * 6) a2).1 50 1)) a2) 50 1 (((rf_i (rf_ci m 205 53 0 ((m.1 50 1) * 6) a2) 54 (Int32.toNatClampNeg ((rf_ci m 205 53 0 ((m.1 50 1) * 6) a2).1 50 1)) a2).1 50 1) + 1)))) (by decide +kernel) rfl (rf_in_of q1) ?_
  obtain rfl := Option.some.inj hg
  exact rf_iret C hE (by decide +kernel)
-- X11_fillRow
abbrev j_X11_fillRow : rf_J := (11, yX11_fillRow, cX11_fillRow, 8, (some .int))
theorem mw_X11_fillRow : rf_mv j_X11_fillRow (rf_R 11) 6 := ⟨⟨rf_mem 58 (by decide +kernel), rf_mem 59 (by decide +kernel), rf_mem 0 (by decide +kernel), rf_mem 59 (by decide +kernel)⟩, by decide +kernel, by decide⟩
def g_X11_fillRow_48_b (w : rf_w) (rec48 : Int32 → rf_m → Option (Int32 × rf_m)) (a7 : Int32) (m : rf_m) : Option (Int32 × rf_m) := (if 6 ≤ a7 then some (a7, m) else rf_g (rf_in a7 6) ((if (m.1 205 (Int32.toNatClampNeg a7)) = ((-1)) then some (a7, m) else rec48 (a7 + 1) m)))
def g_X11_fillRow_48 (w : rf_w) : Nat → Int32 → rf_m → Option (Int32 × rf_m)
  | 0, _, _ => none
  | n + 1, a7, m => g_X11_fillRow_48_b w (g_X11_fillRow_48 w n) a7 m
def g_X11_fillRow (w : rf_w) (m : rf_m) (a1 : Int32) (a2 : Int32) (a3 : Int32) (a4 : Int32) (a5 : Int32) (a6 : Int32) : Option (Int32 × rf_m) := g_X11_fillRow_48 w rf_fuel 0 (rf_i (rf_i (rf_i (rf_i (rf_i (rf_i m 205 (Int32.toNatClampNeg 0) a1) 205 (Int32.toNatClampNeg 1) a2) 205 (Int32.toNatClampNeg 2) a3) 205 (Int32.toNatClampNeg 3) a4) 205 (Int32.toNatClampNeg 4) a5) 205 (Int32.toNatClampNeg 5) a6)
theorem s_X11_fillRow_48_b {w : rf_w} {K : rf_K} {r : Int32 × rf_m} (C : rf_Ctx 11 cX11_fillRow 8 1 (rf_sh w) K) (hE : rf_End (some .int) K (rf_sh w) 0 0 (some (.int r.1)) (rf_MM w r.2)) {rec48 : Int32 → rf_m → Option (Int32 × rf_m)} (hr48 : ∀ (a7 : Int32) (m : rf_m), rec48 a7 m = some r → rf_V 8 (rf_sh w) K 0 0 48 ([(0, .ref 0), (7, .int a7)], [], rf_MM w m)) (a7 : Int32) (m : rf_m) (hg : g_X11_fillRow_48_b w rec48 a7 m = some r) : rf_V 8 (rf_sh w) K 0 0 48 ([(0, .ref 0), (7, .int a7)], [], rf_MM w m) := by
  unfold g_X11_fillRow_48_b at hg
  refine rf_seg C [(.iload 7, 2), (.iconst 6, 2)] (pc' := 52) (S' := ([(0, .ref 0), (7, .int a7)], [.int 6, .int a7], rf_MM w m)) (by decide +kernel) rfl trivial ?_
  refine rf_icmp_ge C 20 72 (by decide +kernel) (fun hc => ?_) (fun hc => ?_)
  · replace hg := (if_pos hc).symm.trans hg
    refine rf_seg C [(.iload 7, 2)] (pc' := 74) (S' := ([(0, .ref 0), (7, .int a7)], [.int a7], rf_MM w m)) (by decide +kernel) rfl trivial ?_
    obtain rfl := Option.some.inj hg
    exact rf_iret C hE (by decide +kernel)
  · replace hg := (if_neg hc).symm.trans hg
    obtain ⟨q0, hg⟩ := rf_g_some hg
    refine rf_seg C [(.aload 0, 1), (.invokeinterface 11 9, 3), (.iload 7, 2), (.iaload, 1), (.iconst (-1), 1)] (pc' := 63) (S' := ([(0, .ref 0), (7, .int a7)], [.int ((-1)), .int (m.1 205 (Int32.toNatClampNeg a7))], rf_MM w m)) (by decide +kernel) rfl (rf_in_of q0) ?_
    refine rf_icmp_eq C 9 72 (by decide +kernel) (fun hc => ?_) (fun hc => ?_)
    · replace hg := (if_pos hc).symm.trans hg
      refine rf_seg C [(.iload 7, 2)] (pc' := 74) (S' := ([(0, .ref 0), (7, .int a7)], [.int a7], rf_MM w m)) (by decide +kernel) rfl trivial ?_
      obtain rfl := Option.some.inj hg
      exact rf_iret C hE (by decide +kernel)
    · replace hg := (if_neg hc).symm.trans hg
      refine rf_seg C [(.iinc 7 1, 3)] (pc' := 69) (S' := ([(7, .int (a7 + 1)), (0, .ref 0)], [], rf_MM w m)) (by decide +kernel) rfl trivial ?_
      refine rf_goto C (-21) 48 (by decide +kernel) ?_
      refine rf_few [1, 0] rfl ?_
      exact hr48 (a7 + 1) m hg
theorem s_X11_fillRow_48 {w : rf_w} {K : rf_K} {r : Int32 × rf_m} (C : rf_Ctx 11 cX11_fillRow 8 1 (rf_sh w) K) (hE : rf_End (some .int) K (rf_sh w) 0 0 (some (.int r.1)) (rf_MM w r.2)) (n : Nat) : ∀ (a7 : Int32) (m : rf_m), g_X11_fillRow_48 w n a7 m = some r → rf_V 8 (rf_sh w) K 0 0 48 ([(0, .ref 0), (7, .int a7)], [], rf_MM w m) := by
  induction n with
  | zero => intro a7 m hg; cases hg
  | succ n ih => intro a7 m hg; exact s_X11_fillRow_48_b C hE ih a7 m hg
theorem c_X11_fillRow {w : rf_w} {m : rf_m} {a1 : Int32} {a2 : Int32} {a3 : Int32} {a4 : Int32} {a5 : Int32} {a6 : Int32} {r : Int32 × rf_m} (hg : g_X11_fillRow w m a1 a2 a3 a4 a5 a6 = some r) : rf_Con j_X11_fillRow 1 (rf_sh w) [.ref 0, .int a1, .int a2, .int a3, .int a4, .int a5, .int a6] (rf_MM w m) (some (.int r.1)) (rf_MM w r.2) := by
  refine rf_con j_X11_fillRow 1 ⟨by decide +kernel, rfl, Nat.le_of_ble_eq_true rfl⟩ (fun K C hE => ?_)
  unfold g_X11_fillRow at hg
  show rf_V 8 (rf_sh w) K 0 0 0 ([(0, .ref 0), (1, .int a1), (2, .int a2), (3, .int a3), (4, .int a4), (5, .int a5), (6, .int a6)], [], rf_MM w m)
  refine rf_seg C [(.aload 0, 1), (.invokeinterface 11 9, 3), (.iconst 0, 1), (.iload 1, 1), (.iastore, 1), (.aload 0, 1), (.invokeinterface 11 9, 3), (.iconst 1, 1), (.iload 2, 1), (.iastore, 1), (.aload 0, 1), (.invokeinterface 11 9, 3), (.iconst 2, 1), (.iload 3, 1), (.iastore, 1), (.aload 0, 1), (.invokeinterface 11 9, 3), (.iconst 3, 1), (.iload 4, 2), (.iastore, 1), (.aload 0, 1), (.invokeinterface 11 9, 3), (.iconst 4, 1), (.iload 5, 2), (.iastore, 1), (.aload 0, 1), (.invokeinterface 11 9, 3), (.iconst 5, 1), (.iload 6, 2), (.iastore, 1), (.iconst 0, 1), (.istore 7, 2)] (pc' := 48) (S' := ([(7, .int 0), (0, .ref 0), (1, .int a1), (2, .int a2), (3, .int a3), (4, .int a4), (5, .int a5), (6, .int a6)], [], rf_MM w (rf_i (rf_i (rf_i (rf_i (rf_i (rf_i m 205 (Int32.toNatClampNeg 0) a1) 205 (Int32.toNatClampNeg 1) a2) 205 (Int32.toNatClampNeg 2) a3) 205 (Int32.toNatClampNeg 3) a4) 205 (Int32.toNatClampNeg 4) a5) 205 (Int32.toNatClampNeg 5) a6))) (by decide +kernel) rfl (by exact ⟨(rf_in_of (by decide)), (rf_in_of (by decide)), (rf_in_of (by decide)), (rf_in_of (by decide)), (rf_in_of (by decide)), (rf_in_of (by decide))⟩) ?_
  refine rf_few [1, 0] rfl ?_
  exact s_X11_fillRow_48 C hE rf_fuel 0 (rf_i (rf_i (rf_i (rf_i (rf_i (rf_i m 205 (Int32.toNatClampNeg 0) a1) 205 (Int32.toNatClampNeg 1) a2) 205 (Int32.toNatClampNeg 2) a3) 205 (Int32.toNatClampNeg 3) a4) 205 (Int32.toNatClampNeg 4) a5) 205 (Int32.toNatClampNeg 5) a6) hg
-- X11_round
abbrev j_X11_round : rf_J := (11, yX11_round, cX11_round, 9, (some .int))
theorem mw_X11_round : rf_mv j_X11_round (rf_R 11) 6 := ⟨⟨rf_mem 58 (by decide +kernel), rf_mem 58 (by decide +kernel), rf_mem 0 (by decide +kernel), rf_mem 58 (by decide +kernel)⟩, by decide +kernel, by decide⟩
def g_X11_round_18_b (w : rf_w) (rec18 : Int32 → Int32 → rf_m → Option (Int32 × rf_m)) (a7 : Int32) (a8 : Int32) (m : rf_m) : Option (Int32 × rf_m) := (if a7 ≤ a8 then rf_b (g_X7_goesRound__205 w m a7) fun y0 m0 => (if y0 = 0 then rf_b (g_X11_refused w m0 5) fun y4 m4 => some (y4, m4) else (if (m0.1 50 1) < 12 then rf_b (g_X7_addRound__205 w m0 a7) fun y1 m1 => rf_b (g_X11_answered w m1 y1) fun y2 m2 => some (y2, m2) else rf_b (g_X11_refused w m0 3) fun y3 m3 => some (y3, m3))) else rf_g (rf_in a8 6) (rf_b (g_X3_isAngle w m (m.1 205 (Int32.toNatClampNeg a8))) fun y6 m6 => (if y6 = 0 then rf_b (g_X11_refused w m6 1) fun y7 m7 => some (y7, m7) else rec18 a7 (a8 + 1) m6)))
def g_X11_round_18 (w : rf_w) : Nat → Int32 → Int32 → rf_m → Option (Int32 × rf_m)
  | 0, _, _, _ => none
  | n + 1, a7, a8, m => g_X11_round_18_b w (g_X11_round_18 w n) a7 a8 m
def g_X11_round (w : rf_w) (m : rf_m) (a1 : Int32) (a2 : Int32) (a3 : Int32) (a4 : Int32) (a5 : Int32) (a6 : Int32) : Option (Int32 × rf_m) := rf_b (g_X11_fillRow w m a1 a2 a3 a4 a5 a6) fun y0 m0 => g_X11_round_18 w rf_fuel y0 0 m0
theorem s_X11_round_18_b {w : rf_w} {K : rf_K} {r : Int32 × rf_m} (C : rf_Ctx 11 cX11_round 9 3 (rf_sh w) K) (hE : rf_End (some .int) K (rf_sh w) 0 0 (some (.int r.1)) (rf_MM w r.2)) {rec18 : Int32 → Int32 → rf_m → Option (Int32 × rf_m)} (hr18 : ∀ (a7 : Int32) (a8 : Int32) (m : rf_m), rec18 a7 a8 m = some r → rf_V 9 (rf_sh w) K 0 0 18 ([(0, .ref 0), (7, .int a7), (8, .int a8)], [], rf_MM w m)) (a7 : Int32) (a8 : Int32) (m : rf_m) (hg : g_X11_round_18_b w rec18 a7 a8 m = some r) : rf_V 9 (rf_sh w) K 0 0 18 ([(0, .ref 0), (7, .int a7), (8, .int a8)], [], rf_MM w m) := by
  unfold g_X11_round_18_b at hg
  refine rf_seg C [(.iload 8, 2), (.iload 7, 2)] (pc' := 22) (S' := ([(0, .ref 0), (7, .int a7), (8, .int a8)], [.int a7, .int a8], rf_MM w m)) (by decide +kernel) rfl trivial ?_
  refine rf_icmp_ge C 32 54 (by decide +kernel) (fun hc => ?_) (fun hc => ?_)
  · replace hg := (if_pos hc).symm.trans hg
    refine rf_seg C [(.aload 0, 1), (.invokeinterface 11 4, 3), (.aload 0, 1), (.invokeinterface 11 9, 3), (.iload 7, 2)] (pc' := 64) (S' := ([(0, .ref 0), (7, .int a7), (8, .int a8)], [.int a7, .ref 205, .ref 50], rf_MM w m)) (by decide +kernel) rfl trivial ?_
    obtain ⟨y0, m0, hc0, hg⟩ := rf_b_some hg
    refine rf_callv C rf_fit0 j_X7_goesRound__205 (ci := 7) (As := [.ref 205, .int a7]) (rest := []) mw_X7_goesRound__205 (c_X7_goesRound__205 hc0) (by decide) rfl (by decide) lk_11_335 rfl rfl (Nat.le_of_ble_eq_true rfl) (by decide +kernel) ?_
    show rf_V 9 (rf_sh w) K 0 0 67 ([(0, .ref 0), (7, .int a7), (8, .int a8)], [.int y0], rf_MM w m0)
    refine rf_if_ne C 9 76 (by decide +kernel) (fun hc => ?_) (fun hc => ?_)
    · replace hg := (if_neg hc).symm.trans hg
      refine rf_seg C [(.aload 0, 1), (.invokeinterface 11 4, 3), (.invokeinterface 7 1, 3), (.iconst 12, 2)] (pc' := 85) (S' := ([(0, .ref 0), (7, .int a7), (8, .int a8)], [.int 12, .int (m0.1 50 1)], rf_MM w m0)) (by decide +kernel) rfl trivial ?_
      refine rf_icmp_lt C 9 94 (by decide +kernel) (fun hc => ?_) (fun hc => ?_)
      · replace hg := (if_pos hc).symm.trans hg
        refine rf_seg C [(.aload 0, 1), (.aload 0, 1), (.invokeinterface 11 4, 3), (.aload 0, 1), (.invokeinterface 11 9, 3), (.iload 7, 2)] (pc' := 105) (S' := ([(0, .ref 0), (7, .int a7), (8, .int a8)], [.int a7, .ref 205, .ref 50, .ref 0], rf_MM w m0)) (by decide +kernel) rfl trivial ?_
        obtain ⟨y1, m1, hc1, hg⟩ := rf_b_some hg
        refine rf_callv C rf_fit0 j_X7_addRound__205 (ci := 7) (As := [.ref 205, .int a7]) (rest := [.ref 0]) mw_X7_addRound__205 (c_X7_addRound__205 hc1) (by decide) rfl (by decide) lk_11_342 rfl rfl (Nat.le_of_ble_eq_true rfl) (by decide +kernel) ?_
        show rf_V 9 (rf_sh w) K 0 0 108 ([(0, .ref 0), (7, .int a7), (8, .int a8)], [.int y1, .ref 0], rf_MM w m1)
        obtain ⟨y2, m2, hc2, hg⟩ := rf_b_some hg
        refine rf_callv C rf_fit0 j_X11_answered (ci := 11) (As := [.int y1]) (rest := []) mw_X11_answered (c_X11_answered hc2) (by decide) rfl (by decide) lk_11_119 rfl rfl (Nat.le_of_ble_eq_true rfl) (by decide +kernel) ?_
        show rf_V 9 (rf_sh w) K 0 0 111 ([(0, .ref 0), (7, .int a7), (8, .int a8)], [.int y2], rf_MM w m2)
        obtain rfl := Option.some.inj hg
        exact rf_iret C hE (by decide +kernel)
      · replace hg := (if_neg hc).symm.trans hg
        refine rf_seg C [(.aload 0, 1), (.iconst 3, 1)] (pc' := 90) (S' := ([(0, .ref 0), (7, .int a7), (8, .int a8)], [.int 3, .ref 0], rf_MM w m0)) (by decide +kernel) rfl trivial ?_
        obtain ⟨y3, m3, hc3, hg⟩ := rf_b_some hg
        refine rf_callv C rf_fit0 j_X11_refused (ci := 11) (As := [.int 3]) (rest := []) mw_X11_refused (c_X11_refused hc3) (by decide) rfl (by decide) lk_11_105 rfl rfl (Nat.le_of_ble_eq_true rfl) (by decide +kernel) ?_
        show rf_V 9 (rf_sh w) K 0 0 93 ([(0, .ref 0), (7, .int a7), (8, .int a8)], [.int y3], rf_MM w m3)
        obtain rfl := Option.some.inj hg
        exact rf_iret C hE (by decide +kernel)
    · replace hg := (if_pos hc).symm.trans hg
      refine rf_seg C [(.aload 0, 1), (.iconst 5, 1)] (pc' := 72) (S' := ([(0, .ref 0), (7, .int a7), (8, .int a8)], [.int 5, .ref 0], rf_MM w m0)) (by decide +kernel) rfl trivial ?_
      obtain ⟨y4, m4, hc4, hg⟩ := rf_b_some hg
      refine rf_callv C rf_fit0 j_X11_refused (ci := 11) (As := [.int 5]) (rest := []) mw_X11_refused (c_X11_refused hc4) (by decide) rfl (by decide) lk_11_105 rfl rfl (Nat.le_of_ble_eq_true rfl) (by decide +kernel) ?_
      show rf_V 9 (rf_sh w) K 0 0 75 ([(0, .ref 0), (7, .int a7), (8, .int a8)], [.int y4], rf_MM w m4)
      obtain rfl := Option.some.inj hg
      exact rf_iret C hE (by decide +kernel)
  · replace hg := (if_neg hc).symm.trans hg
    obtain ⟨q5, hg⟩ := rf_g_some hg
    refine rf_seg C [(.aload 0, 1), (.invokeinterface 11 2, 3), (.aload 0, 1), (.invokeinterface 11 9, 3), (.iload 8, 2), (.iaload, 1)] (pc' := 36) (S' := ([(0, .ref 0), (7, .int a7), (8, .int a8)], [.int (m.1 205 (Int32.toNatClampNeg a8)), .ref 26], rf_MM w m)) (by decide +kernel) rfl (rf_in_of q5) ?_
    obtain ⟨y6, m6, hc6, hg⟩ := rf_b_some hg
    refine rf_callv C rf_fit0 j_X3_isAngle (ci := 3) (As := [.int (m.1 205 (Int32.toNatClampNeg a8))]) (rest := []) mw_X3_isAngle (c_X3_isAngle hc6) (by decide) rfl (by decide) lk_11_167 rfl rfl (Nat.le_of_ble_eq_true rfl) (by decide +kernel) ?_
    show rf_V 9 (rf_sh w) K 0 0 39 ([(0, .ref 0), (7, .int a7), (8, .int a8)], [.int y6], rf_MM w m6)
    refine rf_if_ne C 9 48 (by decide +kernel) (fun hc => ?_) (fun hc => ?_)
    · replace hg := (if_neg hc).symm.trans hg
      refine rf_seg C [(.iinc 8 1, 3)] (pc' := 51) (S' := ([(8, .int (a8 + 1)), (0, .ref 0), (7, .int a7)], [], rf_MM w m6)) (by decide +kernel) rfl trivial ?_
      refine rf_goto C (-33) 18 (by decide +kernel) ?_
      refine rf_few [1, 2, 0] rfl ?_
      exact hr18 a7 (a8 + 1) m6 hg
    · replace hg := (if_pos hc).symm.trans hg
      refine rf_seg C [(.aload 0, 1), (.iconst 1, 1)] (pc' := 44) (S' := ([(0, .ref 0), (7, .int a7), (8, .int a8)], [.int 1, .ref 0], rf_MM w m6)) (by decide +kernel) rfl trivial ?_
      obtain ⟨y7, m7, hc7, hg⟩ := rf_b_some hg
      refine rf_callv C rf_fit0 j_X11_refused (ci := 11) (As := [.int 1]) (rest := []) mw_X11_refused (c_X11_refused hc7) (by decide) rfl (by decide) lk_11_105 rfl rfl (Nat.le_of_ble_eq_true rfl) (by decide +kernel) ?_
      show rf_V 9 (rf_sh w) K 0 0 47 ([(0, .ref 0), (7, .int a7), (8, .int a8)], [.int y7], rf_MM w m7)
      obtain rfl := Option.some.inj hg
      exact rf_iret C hE (by decide +kernel)
theorem s_X11_round_18 {w : rf_w} {K : rf_K} {r : Int32 × rf_m} (C : rf_Ctx 11 cX11_round 9 3 (rf_sh w) K) (hE : rf_End (some .int) K (rf_sh w) 0 0 (some (.int r.1)) (rf_MM w r.2)) (n : Nat) : ∀ (a7 : Int32) (a8 : Int32) (m : rf_m), g_X11_round_18 w n a7 a8 m = some r → rf_V 9 (rf_sh w) K 0 0 18 ([(0, .ref 0), (7, .int a7), (8, .int a8)], [], rf_MM w m) := by
  induction n with
  | zero => intro a7 a8 m hg; cases hg
  | succ n ih => intro a7 a8 m hg; exact s_X11_round_18_b C hE ih a7 a8 m hg
theorem c_X11_round {w : rf_w} {m : rf_m} {a1 : Int32} {a2 : Int32} {a3 : Int32} {a4 : Int32} {a5 : Int32} {a6 : Int32} {r : Int32 × rf_m} (hg : g_X11_round w m a1 a2 a3 a4 a5 a6 = some r) : rf_Con j_X11_round 3 (rf_sh w) [.ref 0, .int a1, .int a2, .int a3, .int a4, .int a5, .int a6] (rf_MM w m) (some (.int r.1)) (rf_MM w r.2) := by
  refine rf_con j_X11_round 3 ⟨by decide +kernel, rfl, Nat.le_of_ble_eq_true rfl⟩ (fun K C hE => ?_)
  unfold g_X11_round at hg
  show rf_V 9 (rf_sh w) K 0 0 0 ([(0, .ref 0), (1, .int a1), (2, .int a2), (3, .int a3), (4, .int a4), (5, .int a5), (6, .int a6)], [], rf_MM w m)
  refine rf_seg C [(.aload 0, 1), (.iload 1, 1), (.iload 2, 1), (.iload 3, 1), (.iload 4, 2), (.iload 5, 2), (.iload 6, 2)] (pc' := 10) (S' := ([(0, .ref 0), (1, .int a1), (2, .int a2), (3, .int a3), (4, .int a4), (5, .int a5), (6, .int a6)], [.int a6, .int a5, .int a4, .int a3, .int a2, .int a1, .ref 0], rf_MM w m)) (by decide +kernel) rfl trivial ?_
  obtain ⟨y0, m0, hc0, hg⟩ := rf_b_some hg
  refine rf_callv C rf_fit0 j_X11_fillRow (ci := 11) (As := [.int a1, .int a2, .int a3, .int a4, .int a5, .int a6]) (rest := []) mw_X11_fillRow (c_X11_fillRow hc0) (by decide) rfl (by decide) lk_11_331 rfl rfl (Nat.le_of_ble_eq_true rfl) (by decide +kernel) ?_
  show rf_V 9 (rf_sh w) K 0 0 13 ([(0, .ref 0), (1, .int a1), (2, .int a2), (3, .int a3), (4, .int a4), (5, .int a5), (6, .int a6)], [.int y0], rf_MM w m0)
  refine rf_seg C [(.istore 7, 2), (.iconst 0, 1), (.istore 8, 2)] (pc' := 18) (S' := ([(8, .int 0), (7, .int y0), (0, .ref 0), (1, .int a1), (2, .int a2), (3, .int a3), (4, .int a4), (5, .int a5), (6, .int a6)], [], rf_MM w m0)) (by decide +kernel) rfl trivial ?_
  refine rf_few [2, 1, 0] rfl ?_
  exact s_X11_round_18 C hE rf_fuel y0 0 m0 hg
-- X11_miss
abbrev j_X11_miss : rf_J := (11, yX11_miss, cX11_miss, 3, (some .int))
theorem mw_X11_miss : rf_mv j_X11_miss (rf_R 11) 2 := ⟨⟨rf_mem 59 (by decide +kernel), rf_mem 59 (by decide +kernel), rf_mem 0 (by decide +kernel), rf_mem 59 (by decide +kernel)⟩, by decide +kernel, by decide⟩
def g_X11_miss (w : rf_w) (m : rf_m) (a1 : Int32) (a2 : Int32) : Option (Int32 × rf_m) := rf_bv (g_X3_freshenAll w m) fun m0 => (if a2 = 0 then rf_b (g_X7_isTriangle w m0 a1) fun y1 m1 => (if y1 = 0 then some ((-2147483648), m1) else rf_b (g_X7_triangleMiss__31 w m1 a1) fun y2 m2 => some (y2, m2)) else rf_b (g_X11_isWithin w m0 a1 0 ((m0.1 50 1) - 1)) fun y3 m3 => (if y3 = 0 then some ((-2147483648), m3) else rf_b (g_X7_roundMiss__31 w m3 a1) fun y4 m4 => some (y4, m4)))
theorem c_X11_miss {w : rf_w} {m : rf_m} {a1 : Int32} {a2 : Int32} {r : Int32 × rf_m} (hg : g_X11_miss w m a1 a2 = some r) : rf_Con j_X11_miss 8 (rf_sh w) [.ref 0, .int a1, .int a2] (rf_MM w m) (some (.int r.1)) (rf_MM w r.2) := by
  refine rf_con j_X11_miss 8 ⟨by decide +kernel, rfl, Nat.le_of_ble_eq_true rfl⟩ (fun K C hE => ?_)
  unfold g_X11_miss at hg
  show rf_V 3 (rf_sh w) K 0 0 0 ([(0, .ref 0), (1, .int a1), (2, .int a2)], [], rf_MM w m)
  refine rf_seg C [(.aload 0, 1), (.invokeinterface 11 2, 3)] (pc' := 4) (S' := ([(0, .ref 0), (1, .int a1), (2, .int a2)], [.ref 26], rf_MM w m)) (by decide +kernel) rfl trivial ?_
  obtain ⟨m0, hc0, hg⟩ := rf_bv_some hg
  refine rf_callv C rf_fit0 j_X3_freshenAll (ci := 3) (As := []) (rest := []) mw_X3_freshenAll (c_X3_freshenAll hc0) (by decide) rfl (by decide) lk_11_346 rfl rfl (Nat.le_of_ble_eq_true rfl) (by decide +kernel) ?_
  show rf_V 3 (rf_sh w) K 0 0 7 ([(0, .ref 0), (1, .int a1), (2, .int a2)], [], rf_MM w m0)
  refine rf_seg C [(.iload 2, 1)] (pc' := 8) (S' := ([(0, .ref 0), (1, .int a1), (2, .int a2)], [.int a2], rf_MM w m0)) (by decide +kernel) rfl trivial ?_
  refine rf_if_eq C 42 50 (by decide +kernel) (fun hc => ?_) (fun hc => ?_)
  · replace hg := (if_pos hc).symm.trans hg
    refine rf_seg C [(.aload 0, 1), (.invokeinterface 11 4, 3), (.iload 1, 1)] (pc' := 55) (S' := ([(0, .ref 0), (1, .int a1), (2, .int a2)], [.int a1, .ref 50], rf_MM w m0)) (by decide +kernel) rfl trivial ?_
    obtain ⟨y1, m1, hc1, hg⟩ := rf_b_some hg
    refine rf_callv C rf_fit0 j_X7_isTriangle (ci := 7) (As := [.int a1]) (rest := []) mw_X7_isTriangle (c_X7_isTriangle hc1) (by decide) rfl (by decide) lk_11_354 rfl rfl (Nat.le_of_ble_eq_true rfl) (by decide +kernel) ?_
    show rf_V 3 (rf_sh w) K 0 0 58 ([(0, .ref 0), (1, .int a1), (2, .int a2)], [.int y1], rf_MM w m1)
    refine rf_if_eq C 21 79 (by decide +kernel) (fun hc => ?_) (fun hc => ?_)
    · replace hg := (if_pos hc).symm.trans hg
      refine rf_seg C [(.iconst (-2147483648), 3)] (pc' := 82) (S' := ([(0, .ref 0), (1, .int a1), (2, .int a2)], [.int ((-2147483648))], rf_MM w m1)) (by decide +kernel) rfl trivial ?_
      obtain rfl := Option.some.inj hg
      exact rf_iret C hE (by decide +kernel)
    · replace hg := (if_neg hc).symm.trans hg
      refine rf_seg C [(.aload 0, 1), (.invokeinterface 11 4, 3), (.iload 1, 1), (.aload 0, 1), (.invokeinterface 11 2, 3), (.invokeinterface 3 4, 3)] (pc' := 73) (S' := ([(0, .ref 0), (1, .int a1), (2, .int a2)], [.ref 31, .int a1, .ref 50], rf_MM w m1)) (by decide +kernel) rfl trivial ?_
      obtain ⟨y2, m2, hc2, hg⟩ := rf_b_some hg
      refine rf_callv C rf_fit0 j_X7_triangleMiss__31 (ci := 7) (As := [.int a1, .ref 31]) (rest := []) mw_X7_triangleMiss__31 (c_X7_triangleMiss__31 hc2) (by decide) rfl (by decide) lk_11_357 rfl rfl (Nat.le_of_ble_eq_true rfl) (by decide +kernel) ?_
      show rf_V 3 (rf_sh w) K 0 0 76 ([(0, .ref 0), (1, .int a1), (2, .int a2)], [.int y2], rf_MM w m2)
      refine rf_goto C 6 82 (by decide +kernel) ?_
      obtain rfl := Option.some.inj hg
      exact rf_iret C hE (by decide +kernel)
  · replace hg := (if_neg hc).symm.trans hg
    refine rf_seg C [(.iload 1, 1), (.iconst 0, 1), (.aload 0, 1), (.invokeinterface 11 4, 3), (.invokeinterface 7 1, 3), (.iconst 1, 1), (.isub, 1)] (pc' := 22) (S' := ([(0, .ref 0), (1, .int a1), (2, .int a2)], [.int ((m0.1 50 1) - 1), .int 0, .int a1], rf_MM w m0)) (by decide +kernel) rfl trivial ?_
    obtain ⟨y3, m3, hc3, hg⟩ := rf_b_some hg
    refine rf_calls C rf_fit0 j_X11_isWithin (As := [.int a1, .int 0, .int ((m0.1 50 1) - 1)]) (rest := []) mw_X11_isWithin (c_X11_isWithin hc3) (by decide) lk_11_91 rfl rfl (Nat.le_of_ble_eq_true rfl) (by decide +kernel) ?_
    show rf_V 3 (rf_sh w) K 0 0 25 ([(0, .ref 0), (1, .int a1), (2, .int a2)], [.int y3], rf_MM w m3)
    refine rf_if_eq C 21 46 (by decide +kernel) (fun hc => ?_) (fun hc => ?_)
    · replace hg := (if_pos hc).symm.trans hg
      refine rf_seg C [(.iconst (-2147483648), 3)] (pc' := 49) (S' := ([(0, .ref 0), (1, .int a1), (2, .int a2)], [.int ((-2147483648))], rf_MM w m3)) (by decide +kernel) rfl trivial ?_
      obtain rfl := Option.some.inj hg
      exact rf_iret C hE (by decide +kernel)
    · replace hg := (if_neg hc).symm.trans hg
      refine rf_seg C [(.aload 0, 1), (.invokeinterface 11 4, 3), (.iload 1, 1), (.aload 0, 1), (.invokeinterface 11 2, 3), (.invokeinterface 3 4, 3)] (pc' := 40) (S' := ([(0, .ref 0), (1, .int a1), (2, .int a2)], [.ref 31, .int a1, .ref 50], rf_MM w m3)) (by decide +kernel) rfl trivial ?_
      obtain ⟨y4, m4, hc4, hg⟩ := rf_b_some hg
      refine rf_callv C rf_fit0 j_X7_roundMiss__31 (ci := 7) (As := [.int a1, .ref 31]) (rest := []) mw_X7_roundMiss__31 (c_X7_roundMiss__31 hc4) (by decide) rfl (by decide) lk_11_349 rfl rfl (Nat.le_of_ble_eq_true rfl) (by decide +kernel) ?_
      show rf_V 3 (rf_sh w) K 0 0 43 ([(0, .ref 0), (1, .int a1), (2, .int a2)], [.int y4], rf_MM w m4)
      refine rf_goto C 6 49 (by decide +kernel) ?_
      obtain rfl := Option.some.inj hg
      exact rf_iret C hE (by decide +kernel)
-- X11_well
abbrev j_X11_well : rf_J := (11, yX11_well, cX11_well, 2, (some .int))
theorem mw_X11_well : rf_mv j_X11_well (rf_R 11) 1 := ⟨⟨rf_mem 62 (by decide +kernel), rf_mem 62 (by decide +kernel), rf_mem 0 (by decide +kernel), rf_mem 62 (by decide +kernel)⟩, by decide +kernel, by decide⟩
def g_X11_well (w : rf_w) (m : rf_m) (a1 : Int32) : Option (Int32 × rf_m) := rf_b (g_X7_isTriangle w m a1) fun y0 m0 => (if y0 = 0 then some ((-1), m0) else rf_bv (g_X3_freshenAll w m0) fun m1 => rf_b (g_X9_leastAngle w m1 (m1.1 0 10)) fun y2 m2 => rf_b (g_X7_isWell w m2 a1 y2) fun y3 m3 => (if y3 = 0 then some (0, m3) else some (1, m3)))
theorem c_X11_well {w : rf_w} {m : rf_m} {a1 : Int32} {r : Int32 × rf_m} (hg : g_X11_well w m a1 = some r) : rf_Con j_X11_well 8 (rf_sh w) [.ref 0, .int a1] (rf_MM w m) (some (.int r.1)) (rf_MM w r.2) := by
  refine rf_con j_X11_well 8 ⟨by decide +kernel, rfl, Nat.le_of_ble_eq_true rfl⟩ (fun K C hE => ?_)
  unfold g_X11_well at hg
  show rf_V 2 (rf_sh w) K 0 0 0 ([(0, .ref 0), (1, .int a1)], [], rf_MM w m)
  refine rf_seg C [(.aload 0, 1), (.invokeinterface 11 4, 3), (.iload 1, 1)] (pc' := 5) (S' := ([(0, .ref 0), (1, .int a1)], [.int a1, .ref 50], rf_MM w m)) (by decide +kernel) rfl trivial ?_
  obtain ⟨y0, m0, hc0, hg⟩ := rf_b_some hg
  refine rf_callv C rf_fit0 j_X7_isTriangle (ci := 7) (As := [.int a1]) (rest := []) mw_X7_isTriangle (c_X7_isTriangle hc0) (by decide) rfl (by decide) lk_11_354 rfl rfl (Nat.le_of_ble_eq_true rfl) (by decide +kernel) ?_
  show rf_V 2 (rf_sh w) K 0 0 8 ([(0, .ref 0), (1, .int a1)], [.int y0], rf_MM w m0)
  refine rf_if_ne C 5 13 (by decide +kernel) (fun hc => ?_) (fun hc => ?_)
  · replace hg := (if_neg hc).symm.trans hg
    refine rf_seg C [(.aload 0, 1), (.invokeinterface 11 2, 3)] (pc' := 17) (S' := ([(0, .ref 0), (1, .int a1)], [.ref 26], rf_MM w m0)) (by decide +kernel) rfl trivial ?_
    obtain ⟨m1, hc1, hg⟩ := rf_bv_some hg
    refine rf_callv C rf_fit0 j_X3_freshenAll (ci := 3) (As := []) (rest := []) mw_X3_freshenAll (c_X3_freshenAll hc1) (by decide) rfl (by decide) lk_11_346 rfl rfl (Nat.le_of_ble_eq_true rfl) (by decide +kernel) ?_
    show rf_V 2 (rf_sh w) K 0 0 20 ([(0, .ref 0), (1, .int a1)], [], rf_MM w m1)
    refine rf_seg C [(.aload 0, 1), (.invokeinterface 11 4, 3), (.iload 1, 1), (.aload 0, 1), (.invokeinterface 11 1, 3), (.aload 0, 1), (.invokeinterface 11 10, 3)] (pc' := 33) (S' := ([(0, .ref 0), (1, .int a1)], [.int (m1.1 0 10), .ref 13, .int a1, .ref 50], rf_MM w m1)) (by decide +kernel) rfl trivial ?_
    obtain ⟨y2, m2, hc2, hg⟩ := rf_b_some hg
    refine rf_callv C rf_fit0 j_X9_leastAngle (ci := 9) (As := [.int (m1.1 0 10)]) (rest := [.int a1, .ref 50]) mw_X9_leastAngle (c_X9_leastAngle hc2) (by decide) rfl (by decide) lk_11_282 rfl rfl (Nat.le_of_ble_eq_true rfl) (by decide +kernel) ?_
    show rf_V 2 (rf_sh w) K 0 0 36 ([(0, .ref 0), (1, .int a1)], [.int y2, .int a1, .ref 50], rf_MM w m2)
    obtain ⟨y3, m3, hc3, hg⟩ := rf_b_some hg
    refine rf_callv C rf_fit0 j_X7_isWell (ci := 7) (As := [.int a1, .int y2]) (rest := []) mw_X7_isWell (c_X7_isWell hc3) (by decide) rfl (by decide) lk_11_360 rfl rfl (Nat.le_of_ble_eq_true rfl) (by decide +kernel) ?_
    show rf_V 2 (rf_sh w) K 0 0 39 ([(0, .ref 0), (1, .int a1)], [.int y3], rf_MM w m3)
    refine rf_if_eq C 7 46 (by decide +kernel) (fun hc => ?_) (fun hc => ?_)
    · replace hg := (if_pos hc).symm.trans hg
      refine rf_seg C [(.iconst 0, 1)] (pc' := 47) (S' := ([(0, .ref 0), (1, .int a1)], [.int 0], rf_MM w m3)) (by decide +kernel) rfl trivial ?_
      obtain rfl := Option.some.inj hg
      exact rf_iret C hE (by decide +kernel)
    · replace hg := (if_neg hc).symm.trans hg
      refine rf_seg C [(.iconst 1, 1)] (pc' := 43) (S' := ([(0, .ref 0), (1, .int a1)], [.int 1], rf_MM w m3)) (by decide +kernel) rfl trivial ?_
      refine rf_goto C 4 47 (by decide +kernel) ?_
      obtain rfl := Option.some.inj hg
      exact rf_iret C hE (by decide +kernel)
  · replace hg := (if_pos hc).symm.trans hg
    refine rf_seg C [(.iconst (-1), 1)] (pc' := 12) (S' := ([(0, .ref 0), (1, .int a1)], [.int ((-1))], rf_MM w m0)) (by decide +kernel) rfl trivial ?_
    obtain rfl := Option.some.inj hg
    exact rf_iret C hE (by decide +kernel)
-- X11_wide
abbrev j_X11_wide : rf_J := (11, yX11_wide, cX11_wide, 1, (some .int))
theorem mw_X11_wide : rf_mv j_X11_wide (rf_R 11) 0 := ⟨⟨rf_mem 63 (by decide +kernel), rf_mem 63 (by decide +kernel), rf_mem 0 (by decide +kernel), rf_mem 63 (by decide +kernel)⟩, by decide +kernel, by decide⟩
def g_X11_wide (w : rf_w) (m : rf_m) : Option (Int32 × rf_m) := rf_bv (g_X3_freshenAll w m) fun m0 => rf_b (g_X9_allowedMiss w m0 (m0.1 0 10)) fun y1 m1 => rf_b (g_X7_wideOnes w m1 y1) fun y2 m2 => some (y2, m2)
theorem c_X11_wide {w : rf_w} {m : rf_m} {r : Int32 × rf_m} (hg : g_X11_wide w m = some r) : rf_Con j_X11_wide 8 (rf_sh w) [.ref 0] (rf_MM w m) (some (.int r.1)) (rf_MM w r.2) := by
  refine rf_con j_X11_wide 8 ⟨by decide +kernel, rfl, Nat.le_of_ble_eq_true rfl⟩ (fun K C hE => ?_)
  unfold g_X11_wide at hg
  show rf_V 1 (rf_sh w) K 0 0 0 ([(0, .ref 0)], [], rf_MM w m)
  refine rf_seg C [(.aload 0, 1), (.invokeinterface 11 2, 3)] (pc' := 4) (S' := ([(0, .ref 0)], [.ref 26], rf_MM w m)) (by decide +kernel) rfl trivial ?_
  obtain ⟨m0, hc0, hg⟩ := rf_bv_some hg
  refine rf_callv C rf_fit0 j_X3_freshenAll (ci := 3) (As := []) (rest := []) mw_X3_freshenAll (c_X3_freshenAll hc0) (by decide) rfl (by decide) lk_11_346 rfl rfl (Nat.le_of_ble_eq_true rfl) (by decide +kernel) ?_
  show rf_V 1 (rf_sh w) K 0 0 7 ([(0, .ref 0)], [], rf_MM w m0)
  refine rf_seg C [(.aload 0, 1), (.invokeinterface 11 4, 3), (.aload 0, 1), (.invokeinterface 11 1, 3), (.aload 0, 1), (.invokeinterface 11 10, 3)] (pc' := 19) (S' := ([(0, .ref 0)], [.int (m0.1 0 10), .ref 13, .ref 50], rf_MM w m0)) (by decide +kernel) rfl trivial ?_
  obtain ⟨y1, m1, hc1, hg⟩ := rf_b_some hg
  refine rf_callv C rf_fit0 j_X9_allowedMiss (ci := 9) (As := [.int (m0.1 0 10)]) (rest := [.ref 50]) mw_X9_allowedMiss (c_X9_allowedMiss hc1) (by decide) rfl (by decide) lk_11_285 rfl rfl (Nat.le_of_ble_eq_true rfl) (by decide +kernel) ?_
  show rf_V 1 (rf_sh w) K 0 0 22 ([(0, .ref 0)], [.int y1, .ref 50], rf_MM w m1)
  obtain ⟨y2, m2, hc2, hg⟩ := rf_b_some hg
  refine rf_callv C rf_fit0 j_X7_wideOnes (ci := 7) (As := [.int y1]) (rest := []) mw_X7_wideOnes (c_X7_wideOnes hc2) (by decide) rfl (by decide) lk_11_363 rfl rfl (Nat.le_of_ble_eq_true rfl) (by decide +kernel) ?_
  show rf_V 1 (rf_sh w) K 0 0 25 ([(0, .ref 0)], [.int y2], rf_MM w m2)
  obtain rfl := Option.some.inj hg
  exact rf_iret C hE (by decide +kernel)
-- J6_bitCount_0f7a4
abbrev j_J6_bitCount_0f7a4 : rf_J := (20, yJ6_bitCount_0f7a4, cJ6_bitCount_0f7a4, 1, (some .int))
theorem mw_J6_bitCount_0f7a4 : rf_ms j_J6_bitCount_0f7a4 1 := ⟨⟨rf_mem 64 (by decide +kernel), rf_mem 64 (by decide +kernel), rf_mem 64 (by decide +kernel)⟩, by decide +kernel, by decide⟩
def g_J6_bitCount_0f7a4 (w : rf_w) (m : rf_m) (a0 : Int32) : Option (Int32 × rf_m) := rf_vi (a0 - (((Int32.toUInt32 a0 >>> (Int32.toUInt32 1 &&& Int32.toUInt32 31)).toInt32) &&& 1431655765)) fun x0 => rf_vi ((x0 &&& 858993459) + (((Int32.toUInt32 x0 >>> (Int32.toUInt32 2 &&& Int32.toUInt32 31)).toInt32) &&& 858993459)) fun x1 => rf_vi ((x1 + ((Int32.toUInt32 x1 >>> (Int32.toUInt32 4 &&& Int32.toUInt32 31)).toInt32)) &&& 252645135) fun x2 => rf_vi (x2 + ((Int32.toUInt32 x2 >>> (Int32.toUInt32 8 &&& Int32.toUInt32 31)).toInt32)) fun x3 => rf_vi (x3 + ((Int32.toUInt32 x3 >>> (Int32.toUInt32 16 &&& Int32.toUInt32 31)).toInt32)) fun x4 => some (x4 &&& 63, m)
theorem c_J6_bitCount_0f7a4 {w : rf_w} {m : rf_m} {a0 : Int32} {r : Int32 × rf_m} (hg : g_J6_bitCount_0f7a4 w m a0 = some r) : rf_Con j_J6_bitCount_0f7a4 1 (rf_sh w) [.int a0] (rf_MM w m) (some (.int r.1)) (rf_MM w r.2) := by
  refine rf_con j_J6_bitCount_0f7a4 1 ⟨by decide +kernel, rfl, Nat.le_of_ble_eq_true rfl⟩ (fun K C hE => ?_)
  unfold g_J6_bitCount_0f7a4 at hg
  show rf_V 1 (rf_sh w) K 0 0 0 ([(0, .int a0)], [], rf_MM w m)
  refine rf_seg C [(.iload 0, 1), (.iload 0, 1), (.iconst 1, 1), (.iushr, 1), (.iconst 1431655765, 3), (.iand, 1), (.isub, 1)] (pc' := 9) (S' := ([(0, .int a0)], [.int (a0 - (((Int32.toUInt32 a0 >>> (Int32.toUInt32 1 &&& Int32.toUInt32 31)).toInt32) &&& 1431655765))], rf_MM w m)) (by decide +kernel) rfl trivial ?_
  obtain ⟨x0, hx0, hg⟩ := rf_vi_some hg
  refine rf_vi_top hx0 ?_
  refine rf_seg C [(.istore 0, 1), (.iload 0, 1), (.iconst 858993459, 3), (.iand, 1), (.iload 0, 1), (.iconst 2, 1), (.iushr, 1), (.iconst 858993459, 3), (.iand, 1), (.iadd, 1)] (pc' := 23) (S' := ([(0, .int x0)], [.int ((x0 &&& 858993459) + (((Int32.toUInt32 x0 >>> (Int32.toUInt32 2 &&& Int32.toUInt32 31)).toInt32) &&& 858993459))], rf_MM w m)) (by decide +kernel) rfl trivial ?_
  obtain ⟨x1, hx1, hg⟩ := rf_vi_some hg
  refine rf_vi_top hx1 ?_
  refine rf_seg C [(.istore 0, 1), (.iload 0, 1), (.iload 0, 1), (.iconst 4, 1), (.iushr, 1), (.iadd, 1), (.iconst 252645135, 3), (.iand, 1)] (pc' := 33) (S' := ([(0, .int x1)], [.int ((x1 + ((Int32.toUInt32 x1 >>> (Int32.toUInt32 4 &&& Int32.toUInt32 31)).toInt32)) &&& 252645135)], rf_MM w m)) (by decide +kernel) rfl trivial ?_
  obtain ⟨x2, hx2, hg⟩ := rf_vi_some hg
  refine rf_vi_top hx2 ?_
  refine rf_seg C [(.istore 0, 1), (.iload 0, 1), (.iload 0, 1), (.iconst 8, 2), (.iushr, 1), (.iadd, 1)] (pc' := 40) (S' := ([(0, .int x2)], [.int (x2 + ((Int32.toUInt32 x2 >>> (Int32.toUInt32 8 &&& Int32.toUInt32 31)).toInt32))], rf_MM w m)) (by decide +kernel) rfl trivial ?_
  obtain ⟨x3, hx3, hg⟩ := rf_vi_some hg
  refine rf_vi_top hx3 ?_
  refine rf_seg C [(.istore 0, 1), (.iload 0, 1), (.iload 0, 1), (.iconst 16, 2), (.iushr, 1), (.iadd, 1)] (pc' := 47) (S' := ([(0, .int x3)], [.int (x3 + ((Int32.toUInt32 x3 >>> (Int32.toUInt32 16 &&& Int32.toUInt32 31)).toInt32))], rf_MM w m)) (by decide +kernel) rfl trivial ?_
  obtain ⟨x4, hx4, hg⟩ := rf_vi_some hg
  refine rf_vi_top hx4 ?_
  refine rf_seg C [(.istore 0, 1), (.iload 0, 1), (.iconst 63, 2), (.iand, 1)] (pc' := 52) (S' := ([(0, .int x4)], [.int (x4 &&& 63)], rf_MM w m)) (by decide +kernel) rfl trivial ?_
  obtain rfl := Option.some.inj hg
  exact rf_iret C hE (by decide +kernel)
-- X11_adjust
abbrev j_X11_adjust : rf_J := (11, yX11_adjust, cX11_adjust, 4, (some .int))
theorem mw_X11_adjust : rf_mv j_X11_adjust (rf_R 11) 2 := ⟨⟨rf_mem 64 (by decide +kernel), rf_mem 64 (by decide +kernel), rf_mem 0 (by decide +kernel), rf_mem 64 (by decide +kernel)⟩, by decide +kernel, by decide⟩
def g_X11_adjust (w : rf_w) (m : rf_m) (a1 : Int32) (a2 : Int32) : Option (Int32 × rf_m) := rf_b (g_J6_bitCount_0f7a4 w m a1) fun y0 m0 => rf_b (g_J6_bitCount_0f7a4 w m0 a2) fun y1 m1 => (if (y0 + y1) = 0 then rf_b (g_X11_refused w m1 1) fun y2 m2 => some (y2, m2) else (if ((Int32.toUInt32 a1 >>> (Int32.toUInt32 (m1.1 50 0) &&& Int32.toUInt32 31)).toInt32) = 0 then (if ((Int32.toUInt32 a2 >>> (Int32.toUInt32 (m1.1 50 1) &&& Int32.toUInt32 31)).toInt32) = 0 then (if (y0 + y1) ≤ 6 then rf_bv (g_X3_freshenAll w m1) fun m4 => rf_b (g_X0_gather w m4 a1 a2) fun y5 m5 => (if y5 = 0 then rf_b (g_X11_refused w m5 5) fun y11 m11 => some (y11, m11) else rf_bv (g_X0_weigh w m5 (m5.1 0 10)) fun m6 => rf_b (g_X0_solve w m6) fun y7 m7 => (if y7 = 0 then rf_b (g_X11_refused w m7 6) fun y10 m10 => some (y10, m10) else rf_b (g_X0_keep w m7) fun y8 m8 => rf_b (g_X11_answered w m8 y8) fun y9 m9 => some (y9, m9))) else rf_b (g_X11_refused w m1 7) fun y12 m12 => some (y12, m12)) else rf_b (g_X11_refused w m1 1) fun y13 m13 => some (y13, m13)) else rf_b (g_X11_refused w m1 1) fun y3 m3 => some (y3, m3)))
theorem c_X11_adjust {w : rf_w} {m : rf_m} {a1 : Int32} {a2 : Int32} {r : Int32 × rf_m} (hg : g_X11_adjust w m a1 a2 = some r) : rf_Con j_X11_adjust 8 (rf_sh w) [.ref 0, .int a1, .int a2] (rf_MM w m) (some (.int r.1)) (rf_MM w r.2) := by
  refine rf_con j_X11_adjust 8 ⟨by decide +kernel, rfl, Nat.le_of_ble_eq_true rfl⟩ (fun K C hE => ?_)
  unfold g_X11_adjust at hg
  show rf_V 4 (rf_sh w) K 0 0 0 ([(0, .ref 0), (1, .int a1), (2, .int a2)], [], rf_MM w m)
  refine rf_seg C [(.iload 1, 1)] (pc' := 1) (S' := ([(0, .ref 0), (1, .int a1), (2, .int a2)], [.int a1], rf_MM w m)) (by decide +kernel) rfl trivial ?_
  obtain ⟨y0, m0, hc0, hg⟩ := rf_b_some hg
  refine rf_calls C rf_fit0 j_J6_bitCount_0f7a4 (As := [.int a1]) (rest := []) mw_J6_bitCount_0f7a4 (c_J6_bitCount_0f7a4 hc0) (by decide) lk_11_366 rfl rfl (Nat.le_of_ble_eq_true rfl) (by decide +kernel) ?_
  show rf_V 4 (rf_sh w) K 0 0 4 ([(0, .ref 0), (1, .int a1), (2, .int a2)], [.int y0], rf_MM w m0)
  refine rf_seg C [(.iload 2, 1)] (pc' := 5) (S' := ([(0, .ref 0), (1, .int a1), (2, .int a2)], [.int a2, .int y0], rf_MM w m0)) (by decide +kernel) rfl trivial ?_
  obtain ⟨y1, m1, hc1, hg⟩ := rf_b_some hg
  refine rf_calls C rf_fit0 j_J6_bitCount_0f7a4 (As := [.int a2]) (rest := [.int y0]) mw_J6_bitCount_0f7a4 (c_J6_bitCount_0f7a4 hc1) (by decide) lk_11_366 rfl rfl (Nat.le_of_ble_eq_true rfl) (by decide +kernel) ?_
  show rf_V 4 (rf_sh w) K 0 0 8 ([(0, .ref 0), (1, .int a1), (2, .int a2)], [.int y1, .int y0], rf_MM w m1)
  refine rf_seg C [(.iadd, 1), (.istore 3, 1), (.iload 3, 1)] (pc' := 11) (S' := ([(3, .int (y0 + y1)), (0, .ref 0), (1, .int a1), (2, .int a2)], [.int (y0 + y1)], rf_MM w m1)) (by decide +kernel) rfl trivial ?_
  refine rf_if_eq C 27 38 (by decide +kernel) (fun hc => ?_) (fun hc => ?_)
  · replace hg := (if_pos hc).symm.trans hg
    refine rf_seg C [(.aload 0, 1), (.iconst 1, 1)] (pc' := 40) (S' := ([(3, .int (y0 + y1)), (0, .ref 0), (1, .int a1), (2, .int a2)], [.int 1, .ref 0], rf_MM w m1)) (by decide +kernel) rfl trivial ?_
    obtain ⟨y2, m2, hc2, hg⟩ := rf_b_some hg
    refine rf_callv C rf_fit0 j_X11_refused (ci := 11) (As := [.int 1]) (rest := []) mw_X11_refused (c_X11_refused hc2) (by decide) rfl (by decide) lk_11_105 rfl rfl (Nat.le_of_ble_eq_true rfl) (by decide +kernel) ?_
    show rf_V 4 (rf_sh w) K 0 0 43 ([(3, .int (y0 + y1)), (0, .ref 0), (1, .int a1), (2, .int a2)], [.int y2], rf_MM w m2)
    obtain rfl := Option.some.inj hg
    exact rf_iret C hE (by decide +kernel)
  · replace hg := (if_neg hc).symm.trans hg
    refine rf_seg C [(.iload 1, 1), (.aload 0, 1), (.invokeinterface 11 4, 3), (.invokeinterface 7 0, 3), (.iushr, 1)] (pc' := 23) (S' := ([(3, .int (y0 + y1)), (0, .ref 0), (1, .int a1), (2, .int a2)], [.int ((Int32.toUInt32 a1 >>> (Int32.toUInt32 (m1.1 50 0) &&& Int32.toUInt32 31)).toInt32)], rf_MM w m1)) (by decide +kernel) rfl trivial ?_
    refine rf_if_ne C 15 38 (by decide +kernel) (fun hc => ?_) (fun hc => ?_)
    · replace hg := (if_neg hc).symm.trans hg
      refine rf_seg C [(.aload 0, 1), (.iconst 1, 1)] (pc' := 40) (S' := ([(3, .int (y0 + y1)), (0, .ref 0), (1, .int a1), (2, .int a2)], [.int 1, .ref 0], rf_MM w m1)) (by decide +kernel) rfl trivial ?_
      obtain ⟨y3, m3, hc3, hg⟩ := rf_b_some hg
      refine rf_callv C rf_fit0 j_X11_refused (ci := 11) (As := [.int 1]) (rest := []) mw_X11_refused (c_X11_refused hc3) (by decide) rfl (by decide) lk_11_105 rfl rfl (Nat.le_of_ble_eq_true rfl) (by decide +kernel) ?_
      show rf_V 4 (rf_sh w) K 0 0 43 ([(3, .int (y0 + y1)), (0, .ref 0), (1, .int a1), (2, .int a2)], [.int y3], rf_MM w m3)
      obtain rfl := Option.some.inj hg
      exact rf_iret C hE (by decide +kernel)
    · replace hg := (if_pos hc).symm.trans hg
      refine rf_seg C [(.iload 2, 1), (.aload 0, 1), (.invokeinterface 11 4, 3), (.invokeinterface 7 1, 3), (.iushr, 1)] (pc' := 35) (S' := ([(3, .int (y0 + y1)), (0, .ref 0), (1, .int a1), (2, .int a2)], [.int ((Int32.toUInt32 a2 >>> (Int32.toUInt32 (m1.1 50 1) &&& Int32.toUInt32 31)).toInt32)], rf_MM w m1)) (by decide +kernel) rfl trivial ?_
      refine rf_if_eq C 9 44 (by decide +kernel) (fun hc => ?_) (fun hc => ?_)
      · replace hg := (if_pos hc).symm.trans hg
        refine rf_seg C [(.iload 3, 1), (.iconst 6, 2)] (pc' := 47) (S' := ([(3, .int (y0 + y1)), (0, .ref 0), (1, .int a1), (2, .int a2)], [.int 6, .int (y0 + y1)], rf_MM w m1)) (by decide +kernel) rfl trivial ?_
        refine rf_icmp_le C 10 57 (by decide +kernel) (fun hc => ?_) (fun hc => ?_)
        · replace hg := (if_pos hc).symm.trans hg
          refine rf_seg C [(.aload 0, 1), (.invokeinterface 11 2, 3)] (pc' := 61) (S' := ([(3, .int (y0 + y1)), (0, .ref 0), (1, .int a1), (2, .int a2)], [.ref 26], rf_MM w m1)) (by decide +kernel) rfl trivial ?_
          obtain ⟨m4, hc4, hg⟩ := rf_bv_some hg
          refine rf_callv C rf_fit0 j_X3_freshenAll (ci := 3) (As := []) (rest := []) mw_X3_freshenAll (c_X3_freshenAll hc4) (by decide) rfl (by decide) lk_11_346 rfl rfl (Nat.le_of_ble_eq_true rfl) (by decide +kernel) ?_
          show rf_V 4 (rf_sh w) K 0 0 64 ([(3, .int (y0 + y1)), (0, .ref 0), (1, .int a1), (2, .int a2)], [], rf_MM w m4)
          refine rf_seg C [(.aload 0, 1), (.invokeinterface 11 5, 3), (.iload 1, 1), (.iload 2, 1)] (pc' := 70) (S' := ([(3, .int (y0 + y1)), (0, .ref 0), (1, .int a1), (2, .int a2)], [.int a2, .int a1, .ref 55], rf_MM w m4)) (by decide +kernel) rfl trivial ?_
          obtain ⟨y5, m5, hc5, hg⟩ := rf_b_some hg
          refine rf_callv C rf_fit0 j_X0_gather (ci := 0) (As := [.int a1, .int a2]) (rest := []) mw_X0_gather (c_X0_gather hc5) (by decide) rfl (by decide) lk_11_371 rfl rfl (Nat.le_of_ble_eq_true rfl) (by decide +kernel) ?_
          show rf_V 4 (rf_sh w) K 0 0 73 ([(3, .int (y0 + y1)), (0, .ref 0), (1, .int a1), (2, .int a2)], [.int y5], rf_MM w m5)
          refine rf_if_ne C 9 82 (by decide +kernel) (fun hc => ?_) (fun hc => ?_)
          · replace hg := (if_neg hc).symm.trans hg
            refine rf_seg C [(.aload 0, 1), (.invokeinterface 11 5, 3), (.aload 0, 1), (.invokeinterface 11 10, 3)] (pc' := 90) (S' := ([(3, .int (y0 + y1)), (0, .ref 0), (1, .int a1), (2, .int a2)], [.int (m5.1 0 10), .ref 55], rf_MM w m5)) (by decide +kernel) rfl trivial ?_
            obtain ⟨m6, hc6, hg⟩ := rf_bv_some hg
            refine rf_callv C rf_fit0 j_X0_weigh (ci := 0) (As := [.int (m5.1 0 10)]) (rest := []) mw_X0_weigh (c_X0_weigh hc6) (by decide) rfl (by decide) lk_11_374 rfl rfl (Nat.le_of_ble_eq_true rfl) (by decide +kernel) ?_
            show rf_V 4 (rf_sh w) K 0 0 93 ([(3, .int (y0 + y1)), (0, .ref 0), (1, .int a1), (2, .int a2)], [], rf_MM w m6)
            refine rf_seg C [(.aload 0, 1), (.invokeinterface 11 5, 3)] (pc' := 97) (S' := ([(3, .int (y0 + y1)), (0, .ref 0), (1, .int a1), (2, .int a2)], [.ref 55], rf_MM w m6)) (by decide +kernel) rfl trivial ?_
            obtain ⟨y7, m7, hc7, hg⟩ := rf_b_some hg
            refine rf_callv C rf_fit0 j_X0_solve (ci := 0) (As := []) (rest := []) mw_X0_solve (c_X0_solve hc7) (by decide) rfl (by decide) lk_11_377 rfl rfl (Nat.le_of_ble_eq_true rfl) (by decide +kernel) ?_
            show rf_V 4 (rf_sh w) K 0 0 100 ([(3, .int (y0 + y1)), (0, .ref 0), (1, .int a1), (2, .int a2)], [.int y7], rf_MM w m7)
            refine rf_if_ne C 10 110 (by decide +kernel) (fun hc => ?_) (fun hc => ?_)
            · replace hg := (if_neg hc).symm.trans hg
              refine rf_seg C [(.aload 0, 1), (.aload 0, 1), (.invokeinterface 11 5, 3)] (pc' := 115) (S' := ([(3, .int (y0 + y1)), (0, .ref 0), (1, .int a1), (2, .int a2)], [.ref 55, .ref 0], rf_MM w m7)) (by decide +kernel) rfl trivial ?_
              obtain ⟨y8, m8, hc8, hg⟩ := rf_b_some hg
              refine rf_callv C rf_fit0 j_X0_keep (ci := 0) (As := []) (rest := [.ref 0]) mw_X0_keep (c_X0_keep hc8) (by decide) rfl (by decide) lk_11_380 rfl rfl (Nat.le_of_ble_eq_true rfl) (by decide +kernel) ?_
              show rf_V 4 (rf_sh w) K 0 0 118 ([(3, .int (y0 + y1)), (0, .ref 0), (1, .int a1), (2, .int a2)], [.int y8, .ref 0], rf_MM w m8)
              obtain ⟨y9, m9, hc9, hg⟩ := rf_b_some hg
              refine rf_callv C rf_fit0 j_X11_answered (ci := 11) (As := [.int y8]) (rest := []) mw_X11_answered (c_X11_answered hc9) (by decide) rfl (by decide) lk_11_119 rfl rfl (Nat.le_of_ble_eq_true rfl) (by decide +kernel) ?_
              show rf_V 4 (rf_sh w) K 0 0 121 ([(3, .int (y0 + y1)), (0, .ref 0), (1, .int a1), (2, .int a2)], [.int y9], rf_MM w m9)
              obtain rfl := Option.some.inj hg
              exact rf_iret C hE (by decide +kernel)
            · replace hg := (if_pos hc).symm.trans hg
              refine rf_seg C [(.aload 0, 1), (.iconst 6, 2)] (pc' := 106) (S' := ([(3, .int (y0 + y1)), (0, .ref 0), (1, .int a1), (2, .int a2)], [.int 6, .ref 0], rf_MM w m7)) (by decide +kernel) rfl trivial ?_
              obtain ⟨y10, m10, hc10, hg⟩ := rf_b_some hg
              refine rf_callv C rf_fit0 j_X11_refused (ci := 11) (As := [.int 6]) (rest := []) mw_X11_refused (c_X11_refused hc10) (by decide) rfl (by decide) lk_11_105 rfl rfl (Nat.le_of_ble_eq_true rfl) (by decide +kernel) ?_
              show rf_V 4 (rf_sh w) K 0 0 109 ([(3, .int (y0 + y1)), (0, .ref 0), (1, .int a1), (2, .int a2)], [.int y10], rf_MM w m10)
              obtain rfl := Option.some.inj hg
              exact rf_iret C hE (by decide +kernel)
          · replace hg := (if_pos hc).symm.trans hg
            refine rf_seg C [(.aload 0, 1), (.iconst 5, 1)] (pc' := 78) (S' := ([(3, .int (y0 + y1)), (0, .ref 0), (1, .int a1), (2, .int a2)], [.int 5, .ref 0], rf_MM w m5)) (by decide +kernel) rfl trivial ?_
            obtain ⟨y11, m11, hc11, hg⟩ := rf_b_some hg
            refine rf_callv C rf_fit0 j_X11_refused (ci := 11) (As := [.int 5]) (rest := []) mw_X11_refused (c_X11_refused hc11) (by decide) rfl (by decide) lk_11_105 rfl rfl (Nat.le_of_ble_eq_true rfl) (by decide +kernel) ?_
            show rf_V 4 (rf_sh w) K 0 0 81 ([(3, .int (y0 + y1)), (0, .ref 0), (1, .int a1), (2, .int a2)], [.int y11], rf_MM w m11)
            obtain rfl := Option.some.inj hg
            exact rf_iret C hE (by decide +kernel)
        · replace hg := (if_neg hc).symm.trans hg
          refine rf_seg C [(.aload 0, 1), (.iconst 7, 2)] (pc' := 53) (S' := ([(3, .int (y0 + y1)), (0, .ref 0), (1, .int a1), (2, .int a2)], [.int 7, .ref 0], rf_MM w m1)) (by decide +kernel) rfl trivial ?_
          obtain ⟨y12, m12, hc12, hg⟩ := rf_b_some hg
          refine rf_callv C rf_fit0 j_X11_refused (ci := 11) (As := [.int 7]) (rest := []) mw_X11_refused (c_X11_refused hc12) (by decide) rfl (by decide) lk_11_105 rfl rfl (Nat.le_of_ble_eq_true rfl) (by decide +kernel) ?_
          show rf_V 4 (rf_sh w) K 0 0 56 ([(3, .int (y0 + y1)), (0, .ref 0), (1, .int a1), (2, .int a2)], [.int y12], rf_MM w m12)
          obtain rfl := Option.some.inj hg
          exact rf_iret C hE (by decide +kernel)
      · replace hg := (if_neg hc).symm.trans hg
        refine rf_seg C [(.aload 0, 1), (.iconst 1, 1)] (pc' := 40) (S' := ([(3, .int (y0 + y1)), (0, .ref 0), (1, .int a1), (2, .int a2)], [.int 1, .ref 0], rf_MM w m1)) (by decide +kernel) rfl trivial ?_
        obtain ⟨y13, m13, hc13, hg⟩ := rf_b_some hg
        refine rf_callv C rf_fit0 j_X11_refused (ci := 11) (As := [.int 1]) (rest := []) mw_X11_refused (c_X11_refused hc13) (by decide) rfl (by decide) lk_11_105 rfl rfl (Nat.le_of_ble_eq_true rfl) (by decide +kernel) ?_
        show rf_V 4 (rf_sh w) K 0 0 43 ([(3, .int (y0 + y1)), (0, .ref 0), (1, .int a1), (2, .int a2)], [.int y13], rf_MM w m13)
        obtain rfl := Option.some.inj hg
        exact rf_iret C hE (by decide +kernel)
-- X11_change
abbrev j_X11_change : rf_J := (11, yX11_change, cX11_change, 2, (some .int))
theorem mw_X11_change : rf_mv j_X11_change (rf_R 11) 1 := ⟨⟨rf_mem 73 (by decide +kernel), rf_mem 73 (by decide +kernel), rf_mem 0 (by decide +kernel), rf_mem 73 (by decide +kernel)⟩, by decide +kernel, by decide⟩
def g_X11_change (w : rf_w) (m : rf_m) (a1 : Int32) : Option (Int32 × rf_m) := rf_b (g_X3_isAngle w m a1) fun y0 m0 => (if y0 = 0 then some ((-2147483648), m0) else rf_b (g_X0_thousandths w m0 a1) fun y1 m1 => some (y1, m1))
theorem c_X11_change {w : rf_w} {m : rf_m} {a1 : Int32} {r : Int32 × rf_m} (hg : g_X11_change w m a1 = some r) : rf_Con j_X11_change 7 (rf_sh w) [.ref 0, .int a1] (rf_MM w m) (some (.int r.1)) (rf_MM w r.2) := by
  refine rf_con j_X11_change 7 ⟨by decide +kernel, rfl, Nat.le_of_ble_eq_true rfl⟩ (fun K C hE => ?_)
  unfold g_X11_change at hg
  show rf_V 2 (rf_sh w) K 0 0 0 ([(0, .ref 0), (1, .int a1)], [], rf_MM w m)
  refine rf_seg C [(.aload 0, 1), (.invokeinterface 11 2, 3), (.iload 1, 1)] (pc' := 5) (S' := ([(0, .ref 0), (1, .int a1)], [.int a1, .ref 26], rf_MM w m)) (by decide +kernel) rfl trivial ?_
  obtain ⟨y0, m0, hc0, hg⟩ := rf_b_some hg
  refine rf_callv C rf_fit0 j_X3_isAngle (ci := 3) (As := [.int a1]) (rest := []) mw_X3_isAngle (c_X3_isAngle hc0) (by decide) rfl (by decide) lk_11_167 rfl rfl (Nat.le_of_ble_eq_true rfl) (by decide +kernel) ?_
  show rf_V 2 (rf_sh w) K 0 0 8 ([(0, .ref 0), (1, .int a1)], [.int y0], rf_MM w m0)
  refine rf_if_eq C 14 22 (by decide +kernel) (fun hc => ?_) (fun hc => ?_)
  · replace hg := (if_pos hc).symm.trans hg
    refine rf_seg C [(.iconst (-2147483648), 3)] (pc' := 25) (S' := ([(0, .ref 0), (1, .int a1)], [.int ((-2147483648))], rf_MM w m0)) (by decide +kernel) rfl trivial ?_
    obtain rfl := Option.some.inj hg
    exact rf_iret C hE (by decide +kernel)
  · replace hg := (if_neg hc).symm.trans hg
    refine rf_seg C [(.aload 0, 1), (.invokeinterface 11 5, 3), (.iload 1, 1)] (pc' := 16) (S' := ([(0, .ref 0), (1, .int a1)], [.int a1, .ref 55], rf_MM w m0)) (by decide +kernel) rfl trivial ?_
    obtain ⟨y1, m1, hc1, hg⟩ := rf_b_some hg
    refine rf_callv C rf_fit0 j_X0_thousandths (ci := 0) (As := [.int a1]) (rest := []) mw_X0_thousandths (c_X0_thousandths hc1) (by decide) rfl (by decide) lk_11_384 rfl rfl (Nat.le_of_ble_eq_true rfl) (by decide +kernel) ?_
    show rf_V 2 (rf_sh w) K 0 0 19 ([(0, .ref 0), (1, .int a1)], [.int y1], rf_MM w m1)
    refine rf_goto C 6 25 (by decide +kernel) ?_
    obtain rfl := Option.some.inj hg
    exact rf_iret C hE (by decide +kernel)
-- X11_part
abbrev j_X11_part : rf_J := (11, yX11_part, cX11_part, 3, (some .int))
theorem mw_X11_part : rf_mv j_X11_part (rf_R 11) 2 := ⟨⟨rf_mem 73 (by decide +kernel), rf_mem 73 (by decide +kernel), rf_mem 0 (by decide +kernel), rf_mem 73 (by decide +kernel)⟩, by decide +kernel, by decide⟩
def g_X11_part (w : rf_w) (m : rf_m) (a1 : Int32) (a2 : Int32) : Option (Int32 × rf_m) := rf_b (g_X3_isAngle w m a1) fun y0 m0 => (if y0 = 0 then some ((-2147483648), m0) else rf_b (g_X0_lowestTerm w m0 a1 a2) fun y1 m1 => some (y1, m1))
theorem c_X11_part {w : rf_w} {m : rf_m} {a1 : Int32} {a2 : Int32} {r : Int32 × rf_m} (hg : g_X11_part w m a1 a2 = some r) : rf_Con j_X11_part 7 (rf_sh w) [.ref 0, .int a1, .int a2] (rf_MM w m) (some (.int r.1)) (rf_MM w r.2) := by
  refine rf_con j_X11_part 7 ⟨by decide +kernel, rfl, Nat.le_of_ble_eq_true rfl⟩ (fun K C hE => ?_)
  unfold g_X11_part at hg
  show rf_V 3 (rf_sh w) K 0 0 0 ([(0, .ref 0), (1, .int a1), (2, .int a2)], [], rf_MM w m)
  refine rf_seg C [(.aload 0, 1), (.invokeinterface 11 2, 3), (.iload 1, 1)] (pc' := 5) (S' := ([(0, .ref 0), (1, .int a1), (2, .int a2)], [.int a1, .ref 26], rf_MM w m)) (by decide +kernel) rfl trivial ?_
  obtain ⟨y0, m0, hc0, hg⟩ := rf_b_some hg
  refine rf_callv C rf_fit0 j_X3_isAngle (ci := 3) (As := [.int a1]) (rest := []) mw_X3_isAngle (c_X3_isAngle hc0) (by decide) rfl (by decide) lk_11_167 rfl rfl (Nat.le_of_ble_eq_true rfl) (by decide +kernel) ?_
  show rf_V 3 (rf_sh w) K 0 0 8 ([(0, .ref 0), (1, .int a1), (2, .int a2)], [.int y0], rf_MM w m0)
  refine rf_if_eq C 15 23 (by decide +kernel) (fun hc => ?_) (fun hc => ?_)
  · replace hg := (if_pos hc).symm.trans hg
    refine rf_seg C [(.iconst (-2147483648), 3)] (pc' := 26) (S' := ([(0, .ref 0), (1, .int a1), (2, .int a2)], [.int ((-2147483648))], rf_MM w m0)) (by decide +kernel) rfl trivial ?_
    obtain rfl := Option.some.inj hg
    exact rf_iret C hE (by decide +kernel)
  · replace hg := (if_neg hc).symm.trans hg
    refine rf_seg C [(.aload 0, 1), (.invokeinterface 11 5, 3), (.iload 1, 1), (.iload 2, 1)] (pc' := 17) (S' := ([(0, .ref 0), (1, .int a1), (2, .int a2)], [.int a2, .int a1, .ref 55], rf_MM w m0)) (by decide +kernel) rfl trivial ?_
    obtain ⟨y1, m1, hc1, hg⟩ := rf_b_some hg
    refine rf_callv C rf_fit0 j_X0_lowestTerm (ci := 0) (As := [.int a1, .int a2]) (rest := []) mw_X0_lowestTerm (c_X0_lowestTerm hc1) (by decide) rfl (by decide) lk_11_387 rfl rfl (Nat.le_of_ble_eq_true rfl) (by decide +kernel) ?_
    show rf_V 3 (rf_sh w) K 0 0 20 ([(0, .ref 0), (1, .int a1), (2, .int a2)], [.int y1], rf_MM w m1)
    refine rf_goto C 6 26 (by decide +kernel) ?_
    obtain rfl := Option.some.inj hg
    exact rf_iret C hE (by decide +kernel)
-- X11_cost
abbrev j_X11_cost : rf_J := (11, yX11_cost, cX11_cost, 1, (some .long))
theorem mw_X11_cost : rf_mv j_X11_cost (rf_R 11) 0 := ⟨⟨rf_mem 74 (by decide +kernel), rf_mem 74 (by decide +kernel), rf_mem 0 (by decide +kernel), rf_mem 74 (by decide +kernel)⟩, by decide +kernel, by decide⟩
def g_X11_cost (w : rf_w) (m : rf_m) : Option (Int64 × rf_m) := some (m.2 55 0, m)
theorem c_X11_cost {w : rf_w} {m : rf_m} {r : Int64 × rf_m} (hg : g_X11_cost w m = some r) : rf_Con j_X11_cost 1 (rf_sh w) [.ref 0] (rf_MM w m) (some (.long r.1)) (rf_MM w r.2) := by
  refine rf_con j_X11_cost 1 ⟨by decide +kernel, rfl, Nat.le_of_ble_eq_true rfl⟩ (fun K C hE => ?_)
  unfold g_X11_cost at hg
  show rf_V 1 (rf_sh w) K 0 0 0 ([(0, .ref 0)], [], rf_MM w m)
  refine rf_seg C [(.aload 0, 1), (.invokeinterface 11 5, 3), (.invokeinterface 0 0, 3)] (pc' := 7) (S' := ([(0, .ref 0)], [.long (m.2 55 0)], rf_MM w m)) (by decide +kernel) rfl trivial ?_
  obtain rfl := Option.some.inj hg
  exact rf_lret C hE (by decide +kernel)
-- X11_sine
abbrev j_X11_sine : rf_J := (11, yX11_sine, cX11_sine, 2, (some .int))
theorem mw_X11_sine : rf_mv j_X11_sine (rf_R 11) 1 := ⟨⟨rf_mem 75 (by decide +kernel), rf_mem 75 (by decide +kernel), rf_mem 0 (by decide +kernel), rf_mem 75 (by decide +kernel)⟩, by decide +kernel, by decide⟩
def g_X11_sine (w : rf_w) (m : rf_m) (a1 : Int32) : Option (Int32 × rf_m) := rf_b (g_X11_isWithin w m a1 0 6480000) fun y0 m0 => (if y0 = 0 then some ((-1), m0) else rf_b (g_X11_sineOf w m0 (a1 / 10)) fun y1 m1 => some (y1, m1))
theorem c_X11_sine {w : rf_w} {m : rf_m} {a1 : Int32} {r : Int32 × rf_m} (hg : g_X11_sine w m a1 = some r) : rf_Con j_X11_sine 2 (rf_sh w) [.ref 0, .int a1] (rf_MM w m) (some (.int r.1)) (rf_MM w r.2) := by
  refine rf_con j_X11_sine 2 ⟨by decide +kernel, rfl, Nat.le_of_ble_eq_true rfl⟩ (fun K C hE => ?_)
  unfold g_X11_sine at hg
  show rf_V 2 (rf_sh w) K 0 0 0 ([(0, .ref 0), (1, .int a1)], [], rf_MM w m)
  refine rf_seg C [(.iload 1, 1), (.iconst 0, 1), (.iconst 6480000, 3)] (pc' := 5) (S' := ([(0, .ref 0), (1, .int a1)], [.int 6480000, .int 0, .int a1], rf_MM w m)) (by decide +kernel) rfl trivial ?_
  obtain ⟨y0, m0, hc0, hg⟩ := rf_b_some hg
  refine rf_calls C rf_fit0 j_X11_isWithin (As := [.int a1, .int 0, .int 6480000]) (rest := []) mw_X11_isWithin (c_X11_isWithin hc0) (by decide) lk_11_91 rfl rfl (Nat.le_of_ble_eq_true rfl) (by decide +kernel) ?_
  show rf_V 2 (rf_sh w) K 0 0 8 ([(0, .ref 0), (1, .int a1)], [.int y0], rf_MM w m0)
  refine rf_if_eq C 13 21 (by decide +kernel) (fun hc => ?_) (fun hc => ?_)
  · replace hg := (if_pos hc).symm.trans hg
    refine rf_seg C [(.iconst (-1), 1)] (pc' := 22) (S' := ([(0, .ref 0), (1, .int a1)], [.int ((-1))], rf_MM w m0)) (by decide +kernel) rfl trivial ?_
    obtain rfl := Option.some.inj hg
    exact rf_iret C hE (by decide +kernel)
  · replace hg := (if_neg hc).symm.trans hg
    refine rf_seg C [(.iload 1, 1), (.iconst 10, 2), (.idiv, 1)] (pc' := 15) (S' := ([(0, .ref 0), (1, .int a1)], [.int (a1 / 10)], rf_MM w m0)) (by decide +kernel) rfl (rf_nz_of (by decide)) ?_
    obtain ⟨y1, m1, hc1, hg⟩ := rf_b_some hg
    refine rf_calls C rf_fit0 j_X11_sineOf (As := [.int (a1 / 10)]) (rest := []) mw_X11_sineOf (c_X11_sineOf hc1) (by decide) lk_11_396 rfl rfl (Nat.le_of_ble_eq_true rfl) (by decide +kernel) ?_
    show rf_V 2 (rf_sh w) K 0 0 18 ([(0, .ref 0), (1, .int a1)], [.int y1], rf_MM w m1)
    refine rf_goto C 4 22 (by decide +kernel) ?_
    obtain rfl := Option.some.inj hg
    exact rf_iret C hE (by decide +kernel)
-- X11_link
abbrev j_X11_link : rf_J := (11, yX11_link, cX11_link, 2, (some .int))
theorem mw_X11_link : rf_mv j_X11_link (rf_R 11) 1 := ⟨⟨rf_mem 81 (by decide +kernel), rf_mem 81 (by decide +kernel), rf_mem 0 (by decide +kernel), rf_mem 81 (by decide +kernel)⟩, by decide +kernel, by decide⟩
def g_X11_link (w : rf_w) (m : rf_m) (a1 : Int32) : Option (Int32 × rf_m) := rf_b (g_X11_isWithin w m a1 0 ((m.1 175 1) - 1)) fun y0 m0 => (if y0 = 0 then some ((-1), m0) else rf_g (rf_in a1 6) (some (m0.1 176 (Int32.toNatClampNeg a1), m0)))
theorem c_X11_link {w : rf_w} {m : rf_m} {a1 : Int32} {r : Int32 × rf_m} (hg : g_X11_link w m a1 = some r) : rf_Con j_X11_link 2 (rf_sh w) [.ref 0, .int a1] (rf_MM w m) (some (.int r.1)) (rf_MM w r.2) := by
  refine rf_con j_X11_link 2 ⟨by decide +kernel, rfl, Nat.le_of_ble_eq_true rfl⟩ (fun K C hE => ?_)
  unfold g_X11_link at hg
  show rf_V 2 (rf_sh w) K 0 0 0 ([(0, .ref 0), (1, .int a1)], [], rf_MM w m)
  refine rf_seg C [(.iload 1, 1), (.iconst 0, 1), (.aload 0, 1), (.invokeinterface 11 6, 3), (.invokeinterface 4 1, 3), (.iconst 1, 1), (.isub, 1)] (pc' := 11) (S' := ([(0, .ref 0), (1, .int a1)], [.int ((m.1 175 1) - 1), .int 0, .int a1], rf_MM w m)) (by decide +kernel) rfl trivial ?_
  obtain ⟨y0, m0, hc0, hg⟩ := rf_b_some hg
  refine rf_calls C rf_fit0 j_X11_isWithin (As := [.int a1, .int 0, .int ((m.1 175 1) - 1)]) (rest := []) mw_X11_isWithin (c_X11_isWithin hc0) (by decide) lk_11_91 rfl rfl (Nat.le_of_ble_eq_true rfl) (by decide +kernel) ?_
  show rf_V 2 (rf_sh w) K 0 0 14 ([(0, .ref 0), (1, .int a1)], [.int y0], rf_MM w m0)
  refine rf_if_eq C 15 29 (by decide +kernel) (fun hc => ?_) (fun hc => ?_)
  · replace hg := (if_pos hc).symm.trans hg
    refine rf_seg C [(.iconst (-1), 1)] (pc' := 30) (S' := ([(0, .ref 0), (1, .int a1)], [.int ((-1))], rf_MM w m0)) (by decide +kernel) rfl trivial ?_
    obtain rfl := Option.some.inj hg
    exact rf_iret C hE (by decide +kernel)
  · replace hg := (if_neg hc).symm.trans hg
    obtain ⟨q1, hg⟩ := rf_g_some hg
    refine rf_seg C [(.aload 0, 1), (.invokeinterface 11 6, 3), (.invokeinterface 4 0, 3), (.iload 1, 1), (.iaload, 1)] (pc' := 26) (S' := ([(0, .ref 0), (1, .int a1)], [.int (m0.1 176 (Int32.toNatClampNeg a1))], rf_MM w m0)) (by decide +kernel) rfl (rf_in_of q1) ?_
    refine rf_goto C 4 30 (by decide +kernel) ?_
    obtain rfl := Option.some.inj hg
    exact rf_iret C hE (by decide +kernel)
-- X11_side
abbrev j_X11_side : rf_J := (11, yX11_side, cX11_side, 2, (some .int))
theorem mw_X11_side : rf_mv j_X11_side (rf_R 11) 1 := ⟨⟨rf_mem 81 (by decide +kernel), rf_mem 81 (by decide +kernel), rf_mem 0 (by decide +kernel), rf_mem 81 (by decide +kernel)⟩, by decide +kernel, by decide⟩
def g_X11_side (w : rf_w) (m : rf_m) (a1 : Int32) : Option (Int32 × rf_m) := (if a1 = 0 then some (m.1 175 2, m) else some (m.1 175 3, m))
theorem c_X11_side {w : rf_w} {m : rf_m} {a1 : Int32} {r : Int32 × rf_m} (hg : g_X11_side w m a1 = some r) : rf_Con j_X11_side 1 (rf_sh w) [.ref 0, .int a1] (rf_MM w m) (some (.int r.1)) (rf_MM w r.2) := by
  refine rf_con j_X11_side 1 ⟨by decide +kernel, rfl, Nat.le_of_ble_eq_true rfl⟩ (fun K C hE => ?_)
  unfold g_X11_side at hg
  show rf_V 2 (rf_sh w) K 0 0 0 ([(0, .ref 0), (1, .int a1)], [], rf_MM w m)
  refine rf_seg C [(.iload 1, 1)] (pc' := 1) (S' := ([(0, .ref 0), (1, .int a1)], [.int a1], rf_MM w m)) (by decide +kernel) rfl trivial ?_
  refine rf_if_eq C 13 14 (by decide +kernel) (fun hc => ?_) (fun hc => ?_)
  · replace hg := (if_pos hc).symm.trans hg
    refine rf_seg C [(.aload 0, 1), (.invokeinterface 11 6, 3), (.invokeinterface 4 2, 3)] (pc' := 21) (S' := ([(0, .ref 0), (1, .int a1)], [.int (m.1 175 2)], rf_MM w m)) (by decide +kernel) rfl trivial ?_
    obtain rfl := Option.some.inj hg
    exact rf_iret C hE (by decide +kernel)
  · replace hg := (if_neg hc).symm.trans hg
    refine rf_seg C [(.aload 0, 1), (.invokeinterface 11 6, 3), (.invokeinterface 4 3, 3)] (pc' := 11) (S' := ([(0, .ref 0), (1, .int a1)], [.int (m.1 175 3)], rf_MM w m)) (by decide +kernel) rfl trivial ?_
    refine rf_goto C 10 21 (by decide +kernel) ?_
    obtain rfl := Option.some.inj hg
    exact rf_iret C hE (by decide +kernel)
-- X4_firstBad__205
abbrev j_X4_firstBad__205 : rf_J := (4, yX4_firstBad, cX4_firstBad, 10, (some .int))
theorem mw_X4_firstBad__205 : rf_mv j_X4_firstBad__205 (rf_R 4) 6 := ⟨⟨rf_mem 82 (by decide +kernel), rf_mem 82 (by decide +kernel), rf_mem 1 (by decide +kernel), rf_mem 82 (by decide +kernel)⟩, by decide +kernel, by decide⟩
def g_X4_firstBad__205_139 (w : rf_w) (rec13 : Int32 → Int32 → Int32 → Int32 → Int32 → Int32 → rf_m → Option (Int32 × rf_m)) (a2 : Int32) (a4 : Int32) (a5 : Int32) (a6 : Int32) (a7 : Int32) (a8 : Int32) (m : rf_m) : Option (Int32 × rf_m) := rec13 a2 a4 a5 a6 a7 (a8 + 1) m
def g_X4_firstBad__205_108 (w : rf_w) (rec13 : Int32 → Int32 → Int32 → Int32 → Int32 → Int32 → rf_m → Option (Int32 × rf_m)) (a2 : Int32) (a4 : Int32) (a5 : Int32) (a6 : Int32) (a8 : Int32) (s0 : Int32) (m : rf_m) : Option (Int32 × rf_m) := (if s0 = 0 then some (1 + a8, m) else (if a8 = (a4 - 1) then rf_b (g_X4_isReached w m a2 s0) fun y0 m0 => (if y0 = 0 then some (1 + a8, m0) else g_X4_firstBad__205_139 w rec13 a2 a4 a5 a6 s0 a8 m0) else g_X4_firstBad__205_139 w rec13 a2 a4 a5 a6 s0 a8 m))
def g_X4_firstBad__205_87 (w : rf_w) (rec13 : Int32 → Int32 → Int32 → Int32 → Int32 → Int32 → rf_m → Option (Int32 × rf_m)) (a2 : Int32) (a4 : Int32) (a5 : Int32) (a6 : Int32) (a7 : Int32) (a8 : Int32) (s0 : Int32) (m : rf_m) : Option (Int32 × rf_m) := (if s0 = 0 then g_X4_firstBad__205_108 w rec13 a2 a4 a5 a6 a8 0 m else rf_g (rf_in a8 6) (rf_b (g_X4_goOver w m (m.1 205 (Int32.toNatClampNeg a8)) a7) fun y1 m1 => g_X4_firstBad__205_108 w rec13 a2 a4 a5 a6 a8 y1 m1))
def g_X4_firstBad__205_86 (w : rf_w) (rec13 : Int32 → Int32 → Int32 → Int32 → Int32 → Int32 → rf_m → Option (Int32 × rf_m)) (a2 : Int32) (a4 : Int32) (a5 : Int32) (a6 : Int32) (a7 : Int32) (a8 : Int32) (m : rf_m) : Option (Int32 × rf_m) := g_X4_firstBad__205_87 w rec13 a2 a4 a5 a6 a7 a8 0 m
def g_X4_firstBad__205_13_b (w : rf_w) (rec13 : Int32 → Int32 → Int32 → Int32 → Int32 → Int32 → rf_m → Option (Int32 × rf_m)) (a2 : Int32) (a4 : Int32) (a5 : Int32) (a6 : Int32) (a7 : Int32) (a8 : Int32) (m : rf_m) : Option (Int32 × rf_m) := (if a4 ≤ a8 then some (0, m) else rf_g (rf_in a8 6) (rf_b (g_X7_isWell w m (m.1 205 (Int32.toNatClampNeg a8)) a6) fun y1 m1 => (if y1 = 0 then g_X4_firstBad__205_86 w rec13 a2 a4 a5 a6 a7 a8 m1 else rf_g (rf_in a8 6) (rf_b (g_X7_triangleMiss__31 w m1 (m1.1 205 (Int32.toNatClampNeg a8))) fun y3 m3 => rf_b (g_X7_isBeyond w m3 y3 a5) fun y4 m4 => (if y4 = 0 then rf_g (rf_in a8 6) (rf_b (g_X4_isAble w m4 (m4.1 205 (Int32.toNatClampNeg a8))) fun y6 m6 => (if y6 = 0 then g_X4_firstBad__205_86 w rec13 a2 a4 a5 a6 a7 a8 m6 else rf_b (g_X11_isAhead__205 w m6 a8) fun y7 m7 => (if y7 = 0 then g_X4_firstBad__205_87 w rec13 a2 a4 a5 a6 a7 a8 1 m7 else g_X4_firstBad__205_86 w rec13 a2 a4 a5 a6 a7 a8 m7))) else g_X4_firstBad__205_86 w rec13 a2 a4 a5 a6 a7 a8 m4)))))
def g_X4_firstBad__205_13 (w : rf_w) : Nat → Int32 → Int32 → Int32 → Int32 → Int32 → Int32 → rf_m → Option (Int32 × rf_m)
  | 0, _, _, _, _, _, _, _ => none
  | n + 1, a2, a4, a5, a6, a7, a8, m => g_X4_firstBad__205_13_b w (g_X4_firstBad__205_13 w n) a2 a4 a5 a6 a7 a8 m
def g_X4_firstBad__205 (w : rf_w) (m : rf_m) (a1 : Int32) (a2 : Int32) (a4 : Int32) (a5 : Int32) (a6 : Int32) : Option (Int32 × rf_m) := g_X4_firstBad__205_13 w rf_fuel a2 a4 a5 a6 1 0 (rf_i m 183 (Int32.toNatClampNeg 0) a1)
theorem s_X4_firstBad__205_139 {w : rf_w} {K : rf_K} {r : Int32 × rf_m} (C : rf_Ctx 4 cX4_firstBad 10 5 (rf_sh w) K) (hE : rf_End (some .int) K (rf_sh w) 0 0 (some (.int r.1)) (rf_MM w r.2)) {rec13 : Int32 → Int32 → Int32 → Int32 → Int32 → Int32 → rf_m → Option (Int32 × rf_m)} (hr13 : ∀ (a2 : Int32) (a4 : Int32) (a5 : Int32) (a6 : Int32) (a7 : Int32) (a8 : Int32) (m : rf_m), rec13 a2 a4 a5 a6 a7 a8 m = some r → rf_V 10 (rf_sh w) K 0 0 13 ([(0, .ref 175), (2, .int a2), (3, .ref 205), (4, .int a4), (5, .int a5), (6, .int a6), (7, .int a7), (8, .int a8)], [], rf_MM w m)) (a2 : Int32) (a4 : Int32) (a5 : Int32) (a6 : Int32) (a7 : Int32) (a8 : Int32) (m : rf_m) (hg : g_X4_firstBad__205_139 w rec13 a2 a4 a5 a6 a7 a8 m = some r) : rf_V 10 (rf_sh w) K 0 0 139 ([(0, .ref 175), (2, .int a2), (3, .ref 205), (4, .int a4), (5, .int a5), (6, .int a6), (7, .int a7), (8, .int a8)], [], rf_MM w m) := by
  unfold g_X4_firstBad__205_139 at hg
  refine rf_seg C [(.iinc 8 1, 3)] (pc' := 142) (S' := ([(8, .int (a8 + 1)), (0, .ref 175), (2, .int a2), (3, .ref 205), (4, .int a4), (5, .int a5), (6, .int a6), (7, .int a7)], [], rf_MM w m)) (by decide +kernel) rfl trivial ?_
  refine rf_goto C (-129) 13 (by decide +kernel) ?_
  refine rf_few [1, 2, 3, 4, 5, 6, 7, 0] rfl ?_
  exact hr13 a2 a4 a5 a6 a7 (a8 + 1) m hg
theorem s_X4_firstBad__205_108 {w : rf_w} {K : rf_K} {r : Int32 × rf_m} (C : rf_Ctx 4 cX4_firstBad 10 5 (rf_sh w) K) (hE : rf_End (some .int) K (rf_sh w) 0 0 (some (.int r.1)) (rf_MM w r.2)) {rec13 : Int32 → Int32 → Int32 → Int32 → Int32 → Int32 → rf_m → Option (Int32 × rf_m)} (hr13 : ∀ (a2 : Int32) (a4 : Int32) (a5 : Int32) (a6 : Int32) (a7 : Int32) (a8 : Int32) (m : rf_m), rec13 a2 a4 a5 a6 a7 a8 m = some r → rf_V 10 (rf_sh w) K 0 0 13 ([(0, .ref 175), (2, .int a2), (3, .ref 205), (4, .int a4), (5, .int a5), (6, .int a6), (7, .int a7), (8, .int a8)], [], rf_MM w m)) (a2 : Int32) (a4 : Int32) (a5 : Int32) (a6 : Int32) (a8 : Int32) (s0 : Int32) (m : rf_m) (hg : g_X4_firstBad__205_108 w rec13 a2 a4 a5 a6 a8 s0 m = some r) : rf_V 10 (rf_sh w) K 0 0 108 ([(0, .ref 175), (2, .int a2), (3, .ref 205), (4, .int a4), (5, .int a5), (6, .int a6), (8, .int a8)], [.int s0], rf_MM w m) := by
  unfold g_X4_firstBad__205_108 at hg
  refine rf_seg C [(.istore 7, 2), (.iload 7, 2)] (pc' := 112) (S' := ([(7, .int s0), (0, .ref 175), (2, .int a2), (3, .ref 205), (4, .int a4), (5, .int a5), (6, .int a6), (8, .int a8)], [.int s0], rf_MM w m)) (by decide +kernel) rfl trivial ?_
  refine rf_if_eq C 22 134 (by decide +kernel) (fun hc => ?_) (fun hc => ?_)
  · replace hg := (if_pos hc).symm.trans hg
    refine rf_seg C [(.iconst 1, 1), (.iload 8, 2), (.iadd, 1)] (pc' := 138) (S' := ([(7, .int s0), (0, .ref 175), (2, .int a2), (3, .ref 205), (4, .int a4), (5, .int a5), (6, .int a6), (8, .int a8)], [.int (1 + a8)], rf_MM w m)) (by decide +kernel) rfl trivial ?_
    obtain rfl := Option.some.inj hg
    exact rf_iret C hE (by decide +kernel)
  · replace hg := (if_neg hc).symm.trans hg
    refine rf_seg C [(.iload 8, 2), (.iload 4, 2), (.iconst 1, 1), (.isub, 1)] (pc' := 121) (S' := ([(7, .int s0), (0, .ref 175), (2, .int a2), (3, .ref 205), (4, .int a4), (5, .int a5), (6, .int a6), (8, .int a8)], [.int (a4 - 1), .int a8], rf_MM w m)) (by decide +kernel) rfl trivial ?_
    refine rf_icmp_ne C 18 139 (by decide +kernel) (fun hc => ?_) (fun hc => ?_)
    · replace hg := (if_neg hc).symm.trans hg
      refine rf_few [1, 2, 3, 4, 5, 6, 0, 7] rfl ?_
      exact s_X4_firstBad__205_139 C hE hr13 a2 a4 a5 a6 s0 a8 m hg
    · replace hg := (if_pos hc).symm.trans hg
      refine rf_seg C [(.aload 0, 1), (.iload 2, 1), (.iload 7, 2)] (pc' := 128) (S' := ([(7, .int s0), (0, .ref 175), (2, .int a2), (3, .ref 205), (4, .int a4), (5, .int a5), (6, .int a6), (8, .int a8)], [.int s0, .int a2, .ref 175], rf_MM w m)) (by decide +kernel) rfl trivial ?_
      obtain ⟨y0, m0, hc0, hg⟩ := rf_b_some hg
      refine rf_callv C rf_fit0 j_X4_isReached (ci := 4) (As := [.int a2, .int s0]) (rest := []) mw_X4_isReached (c_X4_isReached hc0) (by decide) rfl (by decide) lk_4_194 rfl rfl (Nat.le_of_ble_eq_true rfl) (by decide +kernel) ?_
      show rf_V 10 (rf_sh w) K 0 0 131 ([(7, .int s0), (0, .ref 175), (2, .int a2), (3, .ref 205), (4, .int a4), (5, .int a5), (6, .int a6), (8, .int a8)], [.int y0], rf_MM w m0)
      refine rf_if_ne C 8 139 (by decide +kernel) (fun hc => ?_) (fun hc => ?_)
      · replace hg := (if_neg hc).symm.trans hg
        refine rf_few [1, 2, 3, 4, 5, 6, 0, 7] rfl ?_
        exact s_X4_firstBad__205_139 C hE hr13 a2 a4 a5 a6 s0 a8 m0 hg
      · replace hg := (if_pos hc).symm.trans hg
        refine rf_seg C [(.iconst 1, 1), (.iload 8, 2), (.iadd, 1)] (pc' := 138) (S' := ([(7, .int s0), (0, .ref 175), (2, .int a2), (3, .ref 205), (4, .int a4), (5, .int a5), (6, .int a6), (8, .int a8)], [.int (1 + a8)], rf_MM w m0)) (by decide +kernel) rfl trivial ?_
        obtain rfl := Option.some.inj hg
        exact rf_iret C hE (by decide +kernel)
theorem s_X4_firstBad__205_87 {w : rf_w} {K : rf_K} {r : Int32 × rf_m} (C : rf_Ctx 4 cX4_firstBad 10 5 (rf_sh w) K) (hE : rf_End (some .int) K (rf_sh w) 0 0 (some (.int r.1)) (rf_MM w r.2)) {rec13 : Int32 → Int32 → Int32 → Int32 → Int32 → Int32 → rf_m → Option (Int32 × rf_m)} (hr13 : ∀ (a2 : Int32) (a4 : Int32) (a5 : Int32) (a6 : Int32) (a7 : Int32) (a8 : Int32) (m : rf_m), rec13 a2 a4 a5 a6 a7 a8 m = some r → rf_V 10 (rf_sh w) K 0 0 13 ([(0, .ref 175), (2, .int a2), (3, .ref 205), (4, .int a4), (5, .int a5), (6, .int a6), (7, .int a7), (8, .int a8)], [], rf_MM w m)) (a2 : Int32) (a4 : Int32) (a5 : Int32) (a6 : Int32) (a7 : Int32) (a8 : Int32) (s0 : Int32) (m : rf_m) (hg : g_X4_firstBad__205_87 w rec13 a2 a4 a5 a6 a7 a8 s0 m = some r) : rf_V 10 (rf_sh w) K 0 0 87 ([(0, .ref 175), (2, .int a2), (3, .ref 205), (4, .int a4), (5, .int a5), (6, .int a6), (7, .int a7), (8, .int a8)], [.int s0], rf_MM w m) := by
  unfold g_X4_firstBad__205_87 at hg
  refine rf_seg C [(.istore 9, 2), (.iload 9, 2)] (pc' := 91) (S' := ([(9, .int s0), (0, .ref 175), (2, .int a2), (3, .ref 205), (4, .int a4), (5, .int a5), (6, .int a6), (7, .int a7), (8, .int a8)], [.int s0], rf_MM w m)) (by decide +kernel) rfl trivial ?_
  refine rf_if_eq C 16 107 (by decide +kernel) (fun hc => ?_) (fun hc => ?_)
  · replace hg := (if_pos hc).symm.trans hg
    refine rf_seg C [(.iconst 0, 1)] (pc' := 108) (S' := ([(9, .int s0), (0, .ref 175), (2, .int a2), (3, .ref 205), (4, .int a4), (5, .int a5), (6, .int a6), (7, .int a7), (8, .int a8)], [.int 0], rf_MM w m)) (by decide +kernel) rfl trivial ?_
    refine rf_few [1, 2, 3, 4, 5, 6, 8] rfl ?_
    exact s_X4_firstBad__205_108 C hE hr13 a2 a4 a5 a6 a8 0 m hg
  · replace hg := (if_neg hc).symm.trans hg
    obtain ⟨q0, hg⟩ := rf_g_some hg
    refine rf_seg C [(.aload 0, 1), (.aload 3, 1), (.iload 8, 2), (.iaload, 1), (.iload 7, 2)] (pc' := 101) (S' := ([(9, .int s0), (0, .ref 175), (2, .int a2), (3, .ref 205), (4, .int a4), (5, .int a5), (6, .int a6), (7, .int a7), (8, .int a8)], [.int a7, .int (m.1 205 (Int32.toNatClampNeg a8)), .ref 175], rf_MM w m)) (by decide +kernel) rfl (rf_in_of q0) ?_
    obtain ⟨y1, m1, hc1, hg⟩ := rf_b_some hg
    refine rf_callv C rf_fit0 j_X4_goOver (ci := 4) (As := [.int (m.1 205 (Int32.toNatClampNeg a8)), .int a7]) (rest := []) mw_X4_goOver (c_X4_goOver hc1) (by decide) rfl (by decide) lk_4_191 rfl rfl (Nat.le_of_ble_eq_true rfl) (by decide +kernel) ?_
    show rf_V 10 (rf_sh w) K 0 0 104 ([(9, .int s0), (0, .ref 175), (2, .int a2), (3, .ref 205), (4, .int a4), (5, .int a5), (6, .int a6), (7, .int a7), (8, .int a8)], [.int y1], rf_MM w m1)
    refine rf_goto C 4 108 (by decide +kernel) ?_
    refine rf_few [1, 2, 3, 4, 5, 6, 8] rfl ?_
    exact s_X4_firstBad__205_108 C hE hr13 a2 a4 a5 a6 a8 y1 m1 hg
theorem s_X4_firstBad__205_86 {w : rf_w} {K : rf_K} {r : Int32 × rf_m} (C : rf_Ctx 4 cX4_firstBad 10 5 (rf_sh w) K) (hE : rf_End (some .int) K (rf_sh w) 0 0 (some (.int r.1)) (rf_MM w r.2)) {rec13 : Int32 → Int32 → Int32 → Int32 → Int32 → Int32 → rf_m → Option (Int32 × rf_m)} (hr13 : ∀ (a2 : Int32) (a4 : Int32) (a5 : Int32) (a6 : Int32) (a7 : Int32) (a8 : Int32) (m : rf_m), rec13 a2 a4 a5 a6 a7 a8 m = some r → rf_V 10 (rf_sh w) K 0 0 13 ([(0, .ref 175), (2, .int a2), (3, .ref 205), (4, .int a4), (5, .int a5), (6, .int a6), (7, .int a7), (8, .int a8)], [], rf_MM w m)) (a2 : Int32) (a4 : Int32) (a5 : Int32) (a6 : Int32) (a7 : Int32) (a8 : Int32) (m : rf_m) (hg : g_X4_firstBad__205_86 w rec13 a2 a4 a5 a6 a7 a8 m = some r) : rf_V 10 (rf_sh w) K 0 0 86 ([(0, .ref 175), (2, .int a2), (3, .ref 205), (4, .int a4), (5, .int a5), (6, .int a6), (7, .int a7), (8, .int a8)], [], rf_MM w m) := by
  unfold g_X4_firstBad__205_86 at hg
  refine rf_seg C [(.iconst 0, 1)] (pc' := 87) (S' := ([(0, .ref 175), (2, .int a2), (3, .ref 205), (4, .int a4), (5, .int a5), (6, .int a6), (7, .int a7), (8, .int a8)], [.int 0], rf_MM w m)) (by decide +kernel) rfl trivial ?_
  refine rf_few [0, 1, 2, 3, 4, 5, 6, 7] rfl ?_
  exact s_X4_firstBad__205_87 C hE hr13 a2 a4 a5 a6 a7 a8 0 m hg
theorem s_X4_firstBad__205_13_b {w : rf_w} {K : rf_K} {r : Int32 × rf_m} (C : rf_Ctx 4 cX4_firstBad 10 5 (rf_sh w) K) (hE : rf_End (some .int) K (rf_sh w) 0 0 (some (.int r.1)) (rf_MM w r.2)) {rec13 : Int32 → Int32 → Int32 → Int32 → Int32 → Int32 → rf_m → Option (Int32 × rf_m)} (hr13 : ∀ (a2 : Int32) (a4 : Int32) (a5 : Int32) (a6 : Int32) (a7 : Int32) (a8 : Int32) (m : rf_m), rec13 a2 a4 a5 a6 a7 a8 m = some r → rf_V 10 (rf_sh w) K 0 0 13 ([(0, .ref 175), (2, .int a2), (3, .ref 205), (4, .int a4), (5, .int a5), (6, .int a6), (7, .int a7), (8, .int a8)], [], rf_MM w m)) (a2 : Int32) (a4 : Int32) (a5 : Int32) (a6 : Int32) (a7 : Int32) (a8 : Int32) (m : rf_m) (hg : g_X4_firstBad__205_13_b w rec13 a2 a4 a5 a6 a7 a8 m = some r) : rf_V 10 (rf_sh w) K 0 0 13 ([(0, .ref 175), (2, .int a2), (3, .ref 205), (4, .int a4), (5, .int a5), (6, .int a6), (7, .int a7), (8, .int a8)], [], rf_MM w m) := by
  unfold g_X4_firstBad__205_13_b at hg
  refine rf_seg C [(.iload 8, 2), (.iload 4, 2)] (pc' := 17) (S' := ([(0, .ref 175), (2, .int a2), (3, .ref 205), (4, .int a4), (5, .int a5), (6, .int a6), (7, .int a7), (8, .int a8)], [.int a4, .int a8], rf_MM w m)) (by decide +kernel) rfl trivial ?_
  refine rf_icmp_ge C 128 145 (by decide +kernel) (fun hc => ?_) (fun hc => ?_)
  · replace hg := (if_pos hc).symm.trans hg
    refine rf_seg C [(.iconst 0, 1)] (pc' := 146) (S' := ([(0, .ref 175), (2, .int a2), (3, .ref 205), (4, .int a4), (5, .int a5), (6, .int a6), (7, .int a7), (8, .int a8)], [.int 0], rf_MM w m)) (by decide +kernel) rfl trivial ?_
    obtain rfl := Option.some.inj hg
    exact rf_iret C hE (by decide +kernel)
  · replace hg := (if_neg hc).symm.trans hg
    obtain ⟨q0, hg⟩ := rf_g_some hg
    refine rf_seg C [(.aload 0, 1), (.invokeinterface 4 5, 3), (.aload 3, 1), (.iload 8, 2), (.iaload, 1), (.iload 6, 2)] (pc' := 30) (S' := ([(0, .ref 175), (2, .int a2), (3, .ref 205), (4, .int a4), (5, .int a5), (6, .int a6), (7, .int a7), (8, .int a8)], [.int a6, .int (m.1 205 (Int32.toNatClampNeg a8)), .ref 50], rf_MM w m)) (by decide +kernel) rfl (rf_in_of q0) ?_
    obtain ⟨y1, m1, hc1, hg⟩ := rf_b_some hg
    refine rf_callv C rf_fit0 j_X7_isWell (ci := 7) (As := [.int (m.1 205 (Int32.toNatClampNeg a8)), .int a6]) (rest := []) mw_X7_isWell (c_X7_isWell hc1) (by decide) rfl (by decide) lk_4_114 rfl rfl (Nat.le_of_ble_eq_true rfl) (by decide +kernel) ?_
    show rf_V 10 (rf_sh w) K 0 0 33 ([(0, .ref 175), (2, .int a2), (3, .ref 205), (4, .int a4), (5, .int a5), (6, .int a6), (7, .int a7), (8, .int a8)], [.int y1], rf_MM w m1)
    refine rf_if_eq C 53 86 (by decide +kernel) (fun hc => ?_) (fun hc => ?_)
    · replace hg := (if_pos hc).symm.trans hg
      refine rf_few [0, 1, 2, 3, 4, 5, 6, 7] rfl ?_
      exact s_X4_firstBad__205_86 C hE hr13 a2 a4 a5 a6 a7 a8 m1 hg
    · replace hg := (if_neg hc).symm.trans hg
      obtain ⟨q2, hg⟩ := rf_g_some hg
      refine rf_seg C [(.aload 0, 1), (.invokeinterface 4 5, 3), (.aload 3, 1), (.iload 8, 2), (.iaload, 1), (.aload 0, 1), (.invokeinterface 4 4, 3), (.invokeinterface 3 4, 3)] (pc' := 51) (S' := ([(0, .ref 175), (2, .int a2), (3, .ref 205), (4, .int a4), (5, .int a5), (6, .int a6), (7, .int a7), (8, .int a8)], [.ref 31, .int (m1.1 205 (Int32.toNatClampNeg a8)), .ref 50], rf_MM w m1)) (by decide +kernel) rfl (rf_in_of q2) ?_
      obtain ⟨y3, m3, hc3, hg⟩ := rf_b_some hg
      refine rf_callv C rf_fit0 j_X7_triangleMiss__31 (ci := 7) (As := [.int (m1.1 205 (Int32.toNatClampNeg a8)), .ref 31]) (rest := []) mw_X7_triangleMiss__31 (c_X7_triangleMiss__31 hc3) (by decide) rfl (by decide) lk_4_180 rfl rfl (Nat.le_of_ble_eq_true rfl) (by decide +kernel) ?_
      show rf_V 10 (rf_sh w) K 0 0 54 ([(0, .ref 175), (2, .int a2), (3, .ref 205), (4, .int a4), (5, .int a5), (6, .int a6), (7, .int a7), (8, .int a8)], [.int y3], rf_MM w m3)
      refine rf_seg C [(.iload 5, 2)] (pc' := 56) (S' := ([(0, .ref 175), (2, .int a2), (3, .ref 205), (4, .int a4), (5, .int a5), (6, .int a6), (7, .int a7), (8, .int a8)], [.int a5, .int y3], rf_MM w m3)) (by decide +kernel) rfl trivial ?_
      obtain ⟨y4, m4, hc4, hg⟩ := rf_b_some hg
      refine rf_calls C rf_fit0 j_X7_isBeyond (As := [.int y3, .int a5]) (rest := []) mw_X7_isBeyond (c_X7_isBeyond hc4) (by decide) lk_4_184 rfl rfl (Nat.le_of_ble_eq_true rfl) (by decide +kernel) ?_
      show rf_V 10 (rf_sh w) K 0 0 59 ([(0, .ref 175), (2, .int a2), (3, .ref 205), (4, .int a4), (5, .int a5), (6, .int a6), (7, .int a7), (8, .int a8)], [.int y4], rf_MM w m4)
      refine rf_if_ne C 27 86 (by decide +kernel) (fun hc => ?_) (fun hc => ?_)
      · replace hg := (if_neg hc).symm.trans hg
        refine rf_few [0, 1, 2, 3, 4, 5, 6, 7] rfl ?_
        exact s_X4_firstBad__205_86 C hE hr13 a2 a4 a5 a6 a7 a8 m4 hg
      · replace hg := (if_pos hc).symm.trans hg
        obtain ⟨q5, hg⟩ := rf_g_some hg
        refine rf_seg C [(.aload 0, 1), (.aload 3, 1), (.iload 8, 2), (.iaload, 1)] (pc' := 67) (S' := ([(0, .ref 175), (2, .int a2), (3, .ref 205), (4, .int a4), (5, .int a5), (6, .int a6), (7, .int a7), (8, .int a8)], [.int (m4.1 205 (Int32.toNatClampNeg a8)), .ref 175], rf_MM w m4)) (by decide +kernel) rfl (rf_in_of q5) ?_
        obtain ⟨y6, m6, hc6, hg⟩ := rf_b_some hg
        refine rf_callv C rf_fit0 j_X4_isAble (ci := 4) (As := [.int (m4.1 205 (Int32.toNatClampNeg a8))]) (rest := []) mw_X4_isAble (c_X4_isAble hc6) (by decide) rfl (by decide) lk_4_118 rfl rfl (Nat.le_of_ble_eq_true rfl) (by decide +kernel) ?_
        show rf_V 10 (rf_sh w) K 0 0 70 ([(0, .ref 175), (2, .int a2), (3, .ref 205), (4, .int a4), (5, .int a5), (6, .int a6), (7, .int a7), (8, .int a8)], [.int y6], rf_MM w m6)
        refine rf_if_eq C 16 86 (by decide +kernel) (fun hc => ?_) (fun hc => ?_)
        · replace hg := (if_pos hc).symm.trans hg
          refine rf_few [0, 1, 2, 3, 4, 5, 6, 7] rfl ?_
          exact s_X4_firstBad__205_86 C hE hr13 a2 a4 a5 a6 a7 a8 m6 hg
        · replace hg := (if_neg hc).symm.trans hg
          refine rf_seg C [(.aload 3, 1), (.iload 8, 2)] (pc' := 76) (S' := ([(0, .ref 175), (2, .int a2), (3, .ref 205), (4, .int a4), (5, .int a5), (6, .int a6), (7, .int a7), (8, .int a8)], [.int a8, .ref 205], rf_MM w m6)) (by decide +kernel) rfl trivial ?_
          obtain ⟨y7, m7, hc7, hg⟩ := rf_b_some hg
          refine rf_callsN C rf_fit0 j_X11_isAhead__205 (As := [.ref 205, .int a8]) (rest := []) mw_X11_isAhead__205 (c_X11_isAhead__205 hc7) (by decide) lk_4_187 rfl rfl (Nat.le_of_ble_eq_true rfl) (by decide +kernel) ?_
          show rf_V 10 (rf_sh w) K 0 0 79 ([(0, .ref 175), (2, .int a2), (3, .ref 205), (4, .int a4), (5, .int a5), (6, .int a6), (7, .int a7), (8, .int a8)], [.int y7], rf_MM w m7)
          refine rf_if_ne C 7 86 (by decide +kernel) (fun hc => ?_) (fun hc => ?_)
          · replace hg := (if_neg hc).symm.trans hg
            refine rf_few [0, 1, 2, 3, 4, 5, 6, 7] rfl ?_
            exact s_X4_firstBad__205_86 C hE hr13 a2 a4 a5 a6 a7 a8 m7 hg
          · replace hg := (if_pos hc).symm.trans hg
            refine rf_seg C [(.iconst 1, 1)] (pc' := 83) (S' := ([(0, .ref 175), (2, .int a2), (3, .ref 205), (4, .int a4), (5, .int a5), (6, .int a6), (7, .int a7), (8, .int a8)], [.int 1], rf_MM w m7)) (by decide +kernel) rfl trivial ?_
            refine rf_goto C 4 87 (by decide +kernel) ?_
            refine rf_few [0, 1, 2, 3, 4, 5, 6, 7] rfl ?_
            exact s_X4_firstBad__205_87 C hE hr13 a2 a4 a5 a6 a7 a8 1 m7 hg
theorem s_X4_firstBad__205_13 {w : rf_w} {K : rf_K} {r : Int32 × rf_m} (C : rf_Ctx 4 cX4_firstBad 10 5 (rf_sh w) K) (hE : rf_End (some .int) K (rf_sh w) 0 0 (some (.int r.1)) (rf_MM w r.2)) (n : Nat) : ∀ (a2 : Int32) (a4 : Int32) (a5 : Int32) (a6 : Int32) (a7 : Int32) (a8 : Int32) (m : rf_m), g_X4_firstBad__205_13 w n a2 a4 a5 a6 a7 a8 m = some r → rf_V 10 (rf_sh w) K 0 0 13 ([(0, .ref 175), (2, .int a2), (3, .ref 205), (4, .int a4), (5, .int a5), (6, .int a6), (7, .int a7), (8, .int a8)], [], rf_MM w m) := by
  induction n with
  | zero => intro a2 a4 a5 a6 a7 a8 m hg; cases hg
  | succ n ih => intro a2 a4 a5 a6 a7 a8 m hg; exact s_X4_firstBad__205_13_b C hE ih a2 a4 a5 a6 a7 a8 m hg
theorem c_X4_firstBad__205 {w : rf_w} {m : rf_m} {a1 : Int32} {a2 : Int32} {a4 : Int32} {a5 : Int32} {a6 : Int32} {r : Int32 × rf_m} (hg : g_X4_firstBad__205 w m a1 a2 a4 a5 a6 = some r) : rf_Con j_X4_firstBad__205 5 (rf_sh w) [.ref 175, .int a1, .int a2, .ref 205, .int a4, .int a5, .int a6] (rf_MM w m) (some (.int r.1)) (rf_MM w r.2) := by
  refine rf_con j_X4_firstBad__205 5 ⟨by decide +kernel, rfl, Nat.le_of_ble_eq_true rfl⟩ (fun K C hE => ?_)
  unfold g_X4_firstBad__205 at hg
  show rf_V 10 (rf_sh w) K 0 0 0 ([(0, .ref 175), (1, .int a1), (2, .int a2), (3, .ref 205), (4, .int a4), (5, .int a5), (6, .int a6)], [], rf_MM w m)
  refine rf_seg C [(.iconst 1, 1), (.istore 7, 2), (.aload 0, 1), (.invokeinterface 4 19, 3), (.iconst 0, 1), (.iload 1, 1), (.iastore, 1), (.iconst 0, 1), (.istore 8, 2)] (pc' := 13) (S' := ([(8, .int 0), (7, .int 1), (0, .ref 175), (1, .int a1), (2, .int a2), (3, .ref 205), (4, .int a4), (5, .int a5), (6, .int a6)], [], rf_MM w (rf_i m 183 (Int32.toNatClampNeg 0) a1))) (by decide +kernel) rfl (rf_in_of (by decide)) ?_
  refine rf_few [2, 4, 5, 6, 7, 8, 1, 0] rfl ?_
  exact s_X4_firstBad__205_13 C hE rf_fuel a2 a4 a5 a6 1 0 (rf_i m 183 (Int32.toNatClampNeg 0) a1) hg
-- X11_check
abbrev j_X11_check : rf_J := (11, yX11_check, cX11_check, 13, (some .int))
theorem mw_X11_check : rf_mv j_X11_check (rf_R 11) 9 := ⟨⟨rf_mem 82 (by decide +kernel), rf_mem 82 (by decide +kernel), rf_mem 0 (by decide +kernel), rf_mem 82 (by decide +kernel)⟩, by decide +kernel, by decide⟩
def g_X11_check_55_b (w : rf_w) (rec55 : Int32 → Int32 → Int32 → Int32 → Int32 → rf_m → Option (Int32 × rf_m)) (a1 : Int32) (a2 : Int32) (a3 : Int32) (a10 : Int32) (a11 : Int32) (m : rf_m) : Option (Int32 × rf_m) := (if a10 ≤ a11 then rf_bv (g_X3_freshenAll w m) fun m0 => rf_b (g_X9_allowedMiss w m0 (m0.1 0 10)) fun y1 m1 => rf_b (g_X9_leastAngle w m1 (m1.1 0 10)) fun y2 m2 => rf_b (g_X6_sideAt w m2 a1) fun y3 m3 => rf_b (g_X11_sideOf w m3 a2 a3) fun y4 m4 => rf_b (g_X4_firstBad__205 w m4 y3 y4 a10 y1 y2) fun y5 m5 => rf_b (g_X11_answered w m5 y5) fun y6 m6 => some (y6, m6) else rf_g (rf_in a11 6) (rf_b (g_X7_isTriangle w m (m.1 205 (Int32.toNatClampNeg a11))) fun y8 m8 => (if y8 = 0 then rf_b (g_X11_refused w m8 1) fun y9 m9 => some (y9, m9) else rec55 a1 a2 a3 a10 (a11 + 1) m8)))
def g_X11_check_55 (w : rf_w) : Nat → Int32 → Int32 → Int32 → Int32 → Int32 → rf_m → Option (Int32 × rf_m)
  | 0, _, _, _, _, _, _ => none
  | n + 1, a1, a2, a3, a10, a11, m => g_X11_check_55_b w (g_X11_check_55 w n) a1 a2 a3 a10 a11 m
def g_X11_check (w : rf_w) (m : rf_m) (a1 : Int32) (a2 : Int32) (a3 : Int32) (a4 : Int32) (a5 : Int32) (a6 : Int32) (a7 : Int32) (a8 : Int32) (a9 : Int32) : Option (Int32 × rf_m) := rf_b (g_X11_fillRow w m a4 a5 a6 a7 a8 a9) fun y0 m0 => rf_b (g_X6_isBase w m0 a1) fun y1 m1 => (if y1 = 0 then rf_b (g_X11_refused w m1 1) fun y2 m2 => some (y2, m2) else rf_b (g_X5_isPair w m1 a2 a3) fun y3 m3 => (if y3 = 0 then rf_b (g_X11_refused w m3 1) fun y4 m4 => some (y4, m4) else (if y0 = 0 then rf_b (g_X11_refused w m3 1) fun y5 m5 => some (y5, m5) else g_X11_check_55 w rf_fuel a1 a2 a3 y0 0 m3)))
theorem s_X11_check_55_b {w : rf_w} {K : rf_K} {r : Int32 × rf_m} (C : rf_Ctx 11 cX11_check 13 8 (rf_sh w) K) (hE : rf_End (some .int) K (rf_sh w) 0 0 (some (.int r.1)) (rf_MM w r.2)) {rec55 : Int32 → Int32 → Int32 → Int32 → Int32 → rf_m → Option (Int32 × rf_m)} (hr55 : ∀ (a1 : Int32) (a2 : Int32) (a3 : Int32) (a10 : Int32) (a11 : Int32) (m : rf_m), rec55 a1 a2 a3 a10 a11 m = some r → rf_V 13 (rf_sh w) K 0 0 55 ([(0, .ref 0), (1, .int a1), (2, .int a2), (3, .int a3), (10, .int a10), (11, .int a11)], [], rf_MM w m)) (a1 : Int32) (a2 : Int32) (a3 : Int32) (a10 : Int32) (a11 : Int32) (m : rf_m) (hg : g_X11_check_55_b w rec55 a1 a2 a3 a10 a11 m = some r) : rf_V 13 (rf_sh w) K 0 0 55 ([(0, .ref 0), (1, .int a1), (2, .int a2), (3, .int a3), (10, .int a10), (11, .int a11)], [], rf_MM w m) := by
  unfold g_X11_check_55_b at hg
  refine rf_seg C [(.iload 11, 2), (.iload 10, 2)] (pc' := 59) (S' := ([(0, .ref 0), (1, .int a1), (2, .int a2), (3, .int a3), (10, .int a10), (11, .int a11)], [.int a10, .int a11], rf_MM w m)) (by decide +kernel) rfl trivial ?_
  refine rf_icmp_ge C 32 91 (by decide +kernel) (fun hc => ?_) (fun hc => ?_)
  · replace hg := (if_pos hc).symm.trans hg
    refine rf_seg C [(.aload 0, 1), (.invokeinterface 11 2, 3)] (pc' := 95) (S' := ([(0, .ref 0), (1, .int a1), (2, .int a2), (3, .int a3), (10, .int a10), (11, .int a11)], [.ref 26], rf_MM w m)) (by decide +kernel) rfl trivial ?_
    obtain ⟨m0, hc0, hg⟩ := rf_bv_some hg
    refine rf_callv C rf_fit0 j_X3_freshenAll (ci := 3) (As := []) (rest := []) mw_X3_freshenAll (c_X3_freshenAll hc0) (by decide) rfl (by decide) lk_11_346 rfl rfl (Nat.le_of_ble_eq_true rfl) (by decide +kernel) ?_
    show rf_V 13 (rf_sh w) K 0 0 98 ([(0, .ref 0), (1, .int a1), (2, .int a2), (3, .int a3), (10, .int a10), (11, .int a11)], [], rf_MM w m0)
    refine rf_seg C [(.aload 0, 1), (.invokeinterface 11 1, 3), (.aload 0, 1), (.invokeinterface 11 10, 3)] (pc' := 106) (S' := ([(0, .ref 0), (1, .int a1), (2, .int a2), (3, .int a3), (10, .int a10), (11, .int a11)], [.int (m0.1 0 10), .ref 13], rf_MM w m0)) (by decide +kernel) rfl trivial ?_
    obtain ⟨y1, m1, hc1, hg⟩ := rf_b_some hg
    refine rf_callv C rf_fit0 j_X9_allowedMiss (ci := 9) (As := [.int (m0.1 0 10)]) (rest := []) mw_X9_allowedMiss (c_X9_allowedMiss hc1) (by decide) rfl (by decide) lk_11_285 rfl rfl (Nat.le_of_ble_eq_true rfl) (by decide +kernel) ?_
    show rf_V 13 (rf_sh w) K 0 0 109 ([(0, .ref 0), (1, .int a1), (2, .int a2), (3, .int a3), (10, .int a10), (11, .int a11)], [.int y1], rf_MM w m1)
    refine rf_seg C [(.istore 11, 2), (.aload 0, 1), (.invokeinterface 11 1, 3), (.aload 0, 1), (.invokeinterface 11 10, 3)] (pc' := 119) (S' := ([(11, .int y1), (0, .ref 0), (1, .int a1), (2, .int a2), (3, .int a3), (10, .int a10)], [.int (m1.1 0 10), .ref 13], rf_MM w m1)) (by decide +kernel) rfl trivial ?_
    obtain ⟨y2, m2, hc2, hg⟩ := rf_b_some hg
    refine rf_callv C rf_fit0 j_X9_leastAngle (ci := 9) (As := [.int (m1.1 0 10)]) (rest := []) mw_X9_leastAngle (c_X9_leastAngle hc2) (by decide) rfl (by decide) lk_11_282 rfl rfl (Nat.le_of_ble_eq_true rfl) (by decide +kernel) ?_
    show rf_V 13 (rf_sh w) K 0 0 122 ([(11, .int y1), (0, .ref 0), (1, .int a1), (2, .int a2), (3, .int a3), (10, .int a10)], [.int y2], rf_MM w m2)
    refine rf_seg C [(.istore 12, 2), (.aload 0, 1), (.aload 0, 1), (.invokeinterface 11 6, 3), (.aload 0, 1), (.invokeinterface 11 3, 3), (.iload 1, 1)] (pc' := 134) (S' := ([(12, .int y2), (11, .int y1), (0, .ref 0), (1, .int a1), (2, .int a2), (3, .int a3), (10, .int a10)], [.int a1, .ref 41, .ref 175, .ref 0], rf_MM w m2)) (by decide +kernel) rfl trivial ?_
    obtain ⟨y3, m3, hc3, hg⟩ := rf_b_some hg
    refine rf_callv C rf_fit0 j_X6_sideAt (ci := 6) (As := [.int a1]) (rest := [.ref 175, .ref 0]) mw_X6_sideAt (c_X6_sideAt hc3) (by decide) rfl (by decide) lk_11_417 rfl rfl (Nat.le_of_ble_eq_true rfl) (by decide +kernel) ?_
    show rf_V 13 (rf_sh w) K 0 0 137 ([(12, .int y2), (11, .int y1), (0, .ref 0), (1, .int a1), (2, .int a2), (3, .int a3), (10, .int a10)], [.int y3, .ref 175, .ref 0], rf_MM w m3)
    refine rf_seg C [(.iload 2, 1), (.iload 3, 1)] (pc' := 139) (S' := ([(12, .int y2), (11, .int y1), (0, .ref 0), (1, .int a1), (2, .int a2), (3, .int a3), (10, .int a10)], [.int a3, .int a2, .int y3, .ref 175, .ref 0], rf_MM w m3)) (by decide +kernel) rfl trivial ?_
    obtain ⟨y4, m4, hc4, hg⟩ := rf_b_some hg
    refine rf_calls C rf_fit0 j_X11_sideOf (As := [.int a2, .int a3]) (rest := [.int y3, .ref 175, .ref 0]) mw_X11_sideOf (c_X11_sideOf hc4) (by decide) lk_11_399 rfl rfl (Nat.le_of_ble_eq_true rfl) (by decide +kernel) ?_
    show rf_V 13 (rf_sh w) K 0 0 142 ([(12, .int y2), (11, .int y1), (0, .ref 0), (1, .int a1), (2, .int a2), (3, .int a3), (10, .int a10)], [.int y4, .int y3, .ref 175, .ref 0], rf_MM w m4)
    refine rf_seg C [(.aload 0, 1), (.invokeinterface 11 9, 3), (.iload 10, 2), (.iload 11, 2), (.iload 12, 2)] (pc' := 152) (S' := ([(12, .int y2), (11, .int y1), (0, .ref 0), (1, .int a1), (2, .int a2), (3, .int a3), (10, .int a10)], [.int y2, .int y1, .int a10, .ref 205, .int y4, .int y3, .ref 175, .ref 0], rf_MM w m4)) (by decide +kernel) rfl trivial ?_
    obtain ⟨y5, m5, hc5, hg⟩ := rf_b_some hg
    refine rf_callv C rf_fit0 j_X4_firstBad__205 (ci := 4) (As := [.int y3, .int y4, .ref 205, .int a10, .int y1, .int y2]) (rest := [.ref 0]) mw_X4_firstBad__205 (c_X4_firstBad__205 hc5) (by decide) rfl (by decide) lk_11_423 rfl rfl (Nat.le_of_ble_eq_true rfl) (by decide +kernel) ?_
    show rf_V 13 (rf_sh w) K 0 0 155 ([(12, .int y2), (11, .int y1), (0, .ref 0), (1, .int a1), (2, .int a2), (3, .int a3), (10, .int a10)], [.int y5, .ref 0], rf_MM w m5)
    obtain ⟨y6, m6, hc6, hg⟩ := rf_b_some hg
    refine rf_callv C rf_fit0 j_X11_answered (ci := 11) (As := [.int y5]) (rest := []) mw_X11_answered (c_X11_answered hc6) (by decide) rfl (by decide) lk_11_119 rfl rfl (Nat.le_of_ble_eq_true rfl) (by decide +kernel) ?_
    show rf_V 13 (rf_sh w) K 0 0 158 ([(12, .int y2), (11, .int y1), (0, .ref 0), (1, .int a1), (2, .int a2), (3, .int a3), (10, .int a10)], [.int y6], rf_MM w m6)
    obtain rfl := Option.some.inj hg
    exact rf_iret C hE (by decide +kernel)
  · replace hg := (if_neg hc).symm.trans hg
    obtain ⟨q7, hg⟩ := rf_g_some hg
    refine rf_seg C [(.aload 0, 1), (.invokeinterface 11 4, 3), (.aload 0, 1), (.invokeinterface 11 9, 3), (.iload 11, 2), (.iaload, 1)] (pc' := 73) (S' := ([(0, .ref 0), (1, .int a1), (2, .int a2), (3, .int a3), (10, .int a10), (11, .int a11)], [.int (m.1 205 (Int32.toNatClampNeg a11)), .ref 50], rf_MM w m)) (by decide +kernel) rfl (rf_in_of q7) ?_
    obtain ⟨y8, m8, hc8, hg⟩ := rf_b_some hg
    refine rf_callv C rf_fit0 j_X7_isTriangle (ci := 7) (As := [.int (m.1 205 (Int32.toNatClampNeg a11))]) (rest := []) mw_X7_isTriangle (c_X7_isTriangle hc8) (by decide) rfl (by decide) lk_11_354 rfl rfl (Nat.le_of_ble_eq_true rfl) (by decide +kernel) ?_
    show rf_V 13 (rf_sh w) K 0 0 76 ([(0, .ref 0), (1, .int a1), (2, .int a2), (3, .int a3), (10, .int a10), (11, .int a11)], [.int y8], rf_MM w m8)
    refine rf_if_ne C 9 85 (by decide +kernel) (fun hc => ?_) (fun hc => ?_)
    · replace hg := (if_neg hc).symm.trans hg
      refine rf_seg C [(.iinc 11 1, 3)] (pc' := 88) (S' := ([(11, .int (a11 + 1)), (0, .ref 0), (1, .int a1), (2, .int a2), (3, .int a3), (10, .int a10)], [], rf_MM w m8)) (by decide +kernel) rfl trivial ?_
      refine rf_goto C (-33) 55 (by decide +kernel) ?_
      refine rf_few [1, 2, 3, 4, 5, 0] rfl ?_
      exact hr55 a1 a2 a3 a10 (a11 + 1) m8 hg
    · replace hg := (if_pos hc).symm.trans hg
      refine rf_seg C [(.aload 0, 1), (.iconst 1, 1)] (pc' := 81) (S' := ([(0, .ref 0), (1, .int a1), (2, .int a2), (3, .int a3), (10, .int a10), (11, .int a11)], [.int 1, .ref 0], rf_MM w m8)) (by decide +kernel) rfl trivial ?_
      obtain ⟨y9, m9, hc9, hg⟩ := rf_b_some hg
      refine rf_callv C rf_fit0 j_X11_refused (ci := 11) (As := [.int 1]) (rest := []) mw_X11_refused (c_X11_refused hc9) (by decide) rfl (by decide) lk_11_105 rfl rfl (Nat.le_of_ble_eq_true rfl) (by decide +kernel) ?_
      show rf_V 13 (rf_sh w) K 0 0 84 ([(0, .ref 0), (1, .int a1), (2, .int a2), (3, .int a3), (10, .int a10), (11, .int a11)], [.int y9], rf_MM w m9)
      obtain rfl := Option.some.inj hg
      exact rf_iret C hE (by decide +kernel)
theorem s_X11_check_55 {w : rf_w} {K : rf_K} {r : Int32 × rf_m} (C : rf_Ctx 11 cX11_check 13 8 (rf_sh w) K) (hE : rf_End (some .int) K (rf_sh w) 0 0 (some (.int r.1)) (rf_MM w r.2)) (n : Nat) : ∀ (a1 : Int32) (a2 : Int32) (a3 : Int32) (a10 : Int32) (a11 : Int32) (m : rf_m), g_X11_check_55 w n a1 a2 a3 a10 a11 m = some r → rf_V 13 (rf_sh w) K 0 0 55 ([(0, .ref 0), (1, .int a1), (2, .int a2), (3, .int a3), (10, .int a10), (11, .int a11)], [], rf_MM w m) := by
  induction n with
  | zero => intro a1 a2 a3 a10 a11 m hg; cases hg
  | succ n ih => intro a1 a2 a3 a10 a11 m hg; exact s_X11_check_55_b C hE ih a1 a2 a3 a10 a11 m hg
theorem c_X11_check {w : rf_w} {m : rf_m} {a1 : Int32} {a2 : Int32} {a3 : Int32} {a4 : Int32} {a5 : Int32} {a6 : Int32} {a7 : Int32} {a8 : Int32} {a9 : Int32} {r : Int32 × rf_m} (hg : g_X11_check w m a1 a2 a3 a4 a5 a6 a7 a8 a9 = some r) : rf_Con j_X11_check 8 (rf_sh w) [.ref 0, .int a1, .int a2, .int a3, .int a4, .int a5, .int a6, .int a7, .int a8, .int a9] (rf_MM w m) (some (.int r.1)) (rf_MM w r.2) := by
  refine rf_con j_X11_check 8 ⟨by decide +kernel, rfl, Nat.le_of_ble_eq_true rfl⟩ (fun K C hE => ?_)
  unfold g_X11_check at hg
  show rf_V 13 (rf_sh w) K 0 0 0 ([(0, .ref 0), (1, .int a1), (2, .int a2), (3, .int a3), (4, .int a4), (5, .int a5), (6, .int a6), (7, .int a7), (8, .int a8), (9, .int a9)], [], rf_MM w m)
  refine rf_seg C [(.aload 0, 1), (.iload 4, 2), (.iload 5, 2), (.iload 6, 2), (.iload 7, 2), (.iload 8, 2), (.iload 9, 2)] (pc' := 13) (S' := ([(0, .ref 0), (1, .int a1), (2, .int a2), (3, .int a3), (4, .int a4), (5, .int a5), (6, .int a6), (7, .int a7), (8, .int a8), (9, .int a9)], [.int a9, .int a8, .int a7, .int a6, .int a5, .int a4, .ref 0], rf_MM w m)) (by decide +kernel) rfl trivial ?_
  obtain ⟨y0, m0, hc0, hg⟩ := rf_b_some hg
  refine rf_callv C rf_fit0 j_X11_fillRow (ci := 11) (As := [.int a4, .int a5, .int a6, .int a7, .int a8, .int a9]) (rest := []) mw_X11_fillRow (c_X11_fillRow hc0) (by decide) rfl (by decide) lk_11_331 rfl rfl (Nat.le_of_ble_eq_true rfl) (by decide +kernel) ?_
  show rf_V 13 (rf_sh w) K 0 0 16 ([(0, .ref 0), (1, .int a1), (2, .int a2), (3, .int a3), (4, .int a4), (5, .int a5), (6, .int a6), (7, .int a7), (8, .int a8), (9, .int a9)], [.int y0], rf_MM w m0)
  refine rf_seg C [(.istore 10, 2), (.aload 0, 1), (.invokeinterface 11 3, 3), (.iload 1, 1)] (pc' := 23) (S' := ([(10, .int y0), (0, .ref 0), (1, .int a1), (2, .int a2), (3, .int a3), (4, .int a4), (5, .int a5), (6, .int a6), (7, .int a7), (8, .int a8), (9, .int a9)], [.int a1, .ref 41], rf_MM w m0)) (by decide +kernel) rfl trivial ?_
  obtain ⟨y1, m1, hc1, hg⟩ := rf_b_some hg
  refine rf_callv C rf_fit0 j_X6_isBase (ci := 6) (As := [.int a1]) (rest := []) mw_X6_isBase (c_X6_isBase hc1) (by decide) rfl (by decide) lk_11_297 rfl rfl (Nat.le_of_ble_eq_true rfl) (by decide +kernel) ?_
  show rf_V 13 (rf_sh w) K 0 0 26 ([(10, .int y0), (0, .ref 0), (1, .int a1), (2, .int a2), (3, .int a3), (4, .int a4), (5, .int a5), (6, .int a6), (7, .int a7), (8, .int a8), (9, .int a9)], [.int y1], rf_MM w m1)
  refine rf_if_eq C 20 46 (by decide +kernel) (fun hc => ?_) (fun hc => ?_)
  · replace hg := (if_pos hc).symm.trans hg
    refine rf_seg C [(.aload 0, 1), (.iconst 1, 1)] (pc' := 48) (S' := ([(10, .int y0), (0, .ref 0), (1, .int a1), (2, .int a2), (3, .int a3), (4, .int a4), (5, .int a5), (6, .int a6), (7, .int a7), (8, .int a8), (9, .int a9)], [.int 1, .ref 0], rf_MM w m1)) (by decide +kernel) rfl trivial ?_
    obtain ⟨y2, m2, hc2, hg⟩ := rf_b_some hg
    refine rf_callv C rf_fit0 j_X11_refused (ci := 11) (As := [.int 1]) (rest := []) mw_X11_refused (c_X11_refused hc2) (by decide) rfl (by decide) lk_11_105 rfl rfl (Nat.le_of_ble_eq_true rfl) (by decide +kernel) ?_
    show rf_V 13 (rf_sh w) K 0 0 51 ([(10, .int y0), (0, .ref 0), (1, .int a1), (2, .int a2), (3, .int a3), (4, .int a4), (5, .int a5), (6, .int a6), (7, .int a7), (8, .int a8), (9, .int a9)], [.int y2], rf_MM w m2)
    obtain rfl := Option.some.inj hg
    exact rf_iret C hE (by decide +kernel)
  · replace hg := (if_neg hc).symm.trans hg
    refine rf_seg C [(.aload 0, 1), (.invokeinterface 11 0, 3), (.iload 2, 1), (.iload 3, 1)] (pc' := 35) (S' := ([(10, .int y0), (0, .ref 0), (1, .int a1), (2, .int a2), (3, .int a3), (4, .int a4), (5, .int a5), (6, .int a6), (7, .int a7), (8, .int a8), (9, .int a9)], [.int a3, .int a2, .ref 1], rf_MM w m1)) (by decide +kernel) rfl trivial ?_
    obtain ⟨y3, m3, hc3, hg⟩ := rf_b_some hg
    refine rf_callv C rf_fit0 j_X5_isPair (ci := 5) (As := [.int a2, .int a3]) (rest := []) mw_X5_isPair (c_X5_isPair hc3) (by decide) rfl (by decide) lk_11_145 rfl rfl (Nat.le_of_ble_eq_true rfl) (by decide +kernel) ?_
    show rf_V 13 (rf_sh w) K 0 0 38 ([(10, .int y0), (0, .ref 0), (1, .int a1), (2, .int a2), (3, .int a3), (4, .int a4), (5, .int a5), (6, .int a6), (7, .int a7), (8, .int a8), (9, .int a9)], [.int y3], rf_MM w m3)
    refine rf_if_eq C 8 46 (by decide +kernel) (fun hc => ?_) (fun hc => ?_)
    · replace hg := (if_pos hc).symm.trans hg
      refine rf_seg C [(.aload 0, 1), (.iconst 1, 1)] (pc' := 48) (S' := ([(10, .int y0), (0, .ref 0), (1, .int a1), (2, .int a2), (3, .int a3), (4, .int a4), (5, .int a5), (6, .int a6), (7, .int a7), (8, .int a8), (9, .int a9)], [.int 1, .ref 0], rf_MM w m3)) (by decide +kernel) rfl trivial ?_
      obtain ⟨y4, m4, hc4, hg⟩ := rf_b_some hg
      refine rf_callv C rf_fit0 j_X11_refused (ci := 11) (As := [.int 1]) (rest := []) mw_X11_refused (c_X11_refused hc4) (by decide) rfl (by decide) lk_11_105 rfl rfl (Nat.le_of_ble_eq_true rfl) (by decide +kernel) ?_
      show rf_V 13 (rf_sh w) K 0 0 51 ([(10, .int y0), (0, .ref 0), (1, .int a1), (2, .int a2), (3, .int a3), (4, .int a4), (5, .int a5), (6, .int a6), (7, .int a7), (8, .int a8), (9, .int a9)], [.int y4], rf_MM w m4)
      obtain rfl := Option.some.inj hg
      exact rf_iret C hE (by decide +kernel)
    · replace hg := (if_neg hc).symm.trans hg
      refine rf_seg C [(.iload 10, 2)] (pc' := 43) (S' := ([(10, .int y0), (0, .ref 0), (1, .int a1), (2, .int a2), (3, .int a3), (4, .int a4), (5, .int a5), (6, .int a6), (7, .int a7), (8, .int a8), (9, .int a9)], [.int y0], rf_MM w m3)) (by decide +kernel) rfl trivial ?_
      refine rf_if_ne C 9 52 (by decide +kernel) (fun hc => ?_) (fun hc => ?_)
      · replace hg := (if_neg hc).symm.trans hg
        refine rf_seg C [(.iconst 0, 1), (.istore 11, 2)] (pc' := 55) (S' := ([(11, .int 0), (10, .int y0), (0, .ref 0), (1, .int a1), (2, .int a2), (3, .int a3), (4, .int a4), (5, .int a5), (6, .int a6), (7, .int a7), (8, .int a8), (9, .int a9)], [], rf_MM w m3)) (by decide +kernel) rfl trivial ?_
        refine rf_few [2, 3, 4, 5, 1, 0] rfl ?_
        exact s_X11_check_55 C hE rf_fuel a1 a2 a3 y0 0 m3 hg
      · replace hg := (if_pos hc).symm.trans hg
        refine rf_seg C [(.aload 0, 1), (.iconst 1, 1)] (pc' := 48) (S' := ([(10, .int y0), (0, .ref 0), (1, .int a1), (2, .int a2), (3, .int a3), (4, .int a4), (5, .int a5), (6, .int a6), (7, .int a7), (8, .int a8), (9, .int a9)], [.int 1, .ref 0], rf_MM w m3)) (by decide +kernel) rfl trivial ?_
        obtain ⟨y5, m5, hc5, hg⟩ := rf_b_some hg
        refine rf_callv C rf_fit0 j_X11_refused (ci := 11) (As := [.int 1]) (rest := []) mw_X11_refused (c_X11_refused hc5) (by decide) rfl (by decide) lk_11_105 rfl rfl (Nat.le_of_ble_eq_true rfl) (by decide +kernel) ?_
        show rf_V 13 (rf_sh w) K 0 0 51 ([(10, .int y0), (0, .ref 0), (1, .int a1), (2, .int a2), (3, .int a3), (4, .int a4), (5, .int a5), (6, .int a6), (7, .int a7), (8, .int a8), (9, .int a9)], [.int y5], rf_MM w m5)
        obtain rfl := Option.some.inj hg
        exact rf_iret C hE (by decide +kernel)
-- X11_suspect
abbrev j_X11_suspect : rf_J := (11, yX11_suspect, cX11_suspect, 2, (some .int))
theorem mw_X11_suspect : rf_mv j_X11_suspect (rf_R 11) 1 := ⟨⟨rf_mem 83 (by decide +kernel), rf_mem 83 (by decide +kernel), rf_mem 0 (by decide +kernel), rf_mem 83 (by decide +kernel)⟩, by decide +kernel, by decide⟩
def g_X11_suspect (w : rf_w) (m : rf_m) (a1 : Int32) : Option (Int32 × rf_m) := rf_b (g_X3_isReading w m a1) fun y0 m0 => (if y0 = 0 then rf_b (g_X11_refused w m0 1) fun y9 m9 => some (y9, m9) else rf_bv (g_X3_freshenAll w m0) fun m1 => rf_b (g_X3_isKept w m1 a1) fun y2 m2 => (if y2 = 0 then rf_b (g_X11_refused w m2 5) fun y3 m3 => some (y3, m3) else rf_b (g_X2_isSuspect w m2 a1) fun y4 m4 => (if y4 = 0 then (if (m4.1 184 1) < 12 then rf_b (g_X2_addSuspect w m4 a1) fun y5 m5 => rf_b (g_X11_answered w m5 y5) fun y6 m6 => some (y6, m6) else rf_b (g_X11_refused w m4 3) fun y7 m7 => some (y7, m7)) else rf_b (g_X11_refused w m4 5) fun y8 m8 => some (y8, m8))))
theorem c_X11_suspect {w : rf_w} {m : rf_m} {a1 : Int32} {r : Int32 × rf_m} (hg : g_X11_suspect w m a1 = some r) : rf_Con j_X11_suspect 8 (rf_sh w) [.ref 0, .int a1] (rf_MM w m) (some (.int r.1)) (rf_MM w r.2) := by
  refine rf_con j_X11_suspect 8 ⟨by decide +kernel, rfl, Nat.le_of_ble_eq_true rfl⟩ (fun K C hE => ?_)
  unfold g_X11_suspect at hg
  show rf_V 2 (rf_sh w) K 0 0 0 ([(0, .ref 0), (1, .int a1)], [], rf_MM w m)
  refine rf_seg C [(.aload 0, 1), (.invokeinterface 11 2, 3), (.iload 1, 1)] (pc' := 5) (S' := ([(0, .ref 0), (1, .int a1)], [.int a1, .ref 26], rf_MM w m)) (by decide +kernel) rfl trivial ?_
  obtain ⟨y0, m0, hc0, hg⟩ := rf_b_some hg
  refine rf_callv C rf_fit0 j_X3_isReading (ci := 3) (As := [.int a1]) (rest := []) mw_X3_isReading (c_X3_isReading hc0) (by decide) rfl (by decide) lk_11_187 rfl rfl (Nat.le_of_ble_eq_true rfl) (by decide +kernel) ?_
  show rf_V 2 (rf_sh w) K 0 0 8 ([(0, .ref 0), (1, .int a1)], [.int y0], rf_MM w m0)
  refine rf_if_ne C 9 17 (by decide +kernel) (fun hc => ?_) (fun hc => ?_)
  · replace hg := (if_neg hc).symm.trans hg
    refine rf_seg C [(.aload 0, 1), (.invokeinterface 11 2, 3)] (pc' := 21) (S' := ([(0, .ref 0), (1, .int a1)], [.ref 26], rf_MM w m0)) (by decide +kernel) rfl trivial ?_
    obtain ⟨m1, hc1, hg⟩ := rf_bv_some hg
    refine rf_callv C rf_fit0 j_X3_freshenAll (ci := 3) (As := []) (rest := []) mw_X3_freshenAll (c_X3_freshenAll hc1) (by decide) rfl (by decide) lk_11_346 rfl rfl (Nat.le_of_ble_eq_true rfl) (by decide +kernel) ?_
    show rf_V 2 (rf_sh w) K 0 0 24 ([(0, .ref 0), (1, .int a1)], [], rf_MM w m1)
    refine rf_seg C [(.aload 0, 1), (.invokeinterface 11 2, 3), (.iload 1, 1)] (pc' := 29) (S' := ([(0, .ref 0), (1, .int a1)], [.int a1, .ref 26], rf_MM w m1)) (by decide +kernel) rfl trivial ?_
    obtain ⟨y2, m2, hc2, hg⟩ := rf_b_some hg
    refine rf_callv C rf_fit0 j_X3_isKept (ci := 3) (As := [.int a1]) (rest := []) mw_X3_isKept (c_X3_isKept hc2) (by decide) rfl (by decide) lk_11_427 rfl rfl (Nat.le_of_ble_eq_true rfl) (by decide +kernel) ?_
    show rf_V 2 (rf_sh w) K 0 0 32 ([(0, .ref 0), (1, .int a1)], [.int y2], rf_MM w m2)
    refine rf_if_eq C 14 46 (by decide +kernel) (fun hc => ?_) (fun hc => ?_)
    · replace hg := (if_pos hc).symm.trans hg
      refine rf_seg C [(.aload 0, 1), (.iconst 5, 1)] (pc' := 48) (S' := ([(0, .ref 0), (1, .int a1)], [.int 5, .ref 0], rf_MM w m2)) (by decide +kernel) rfl trivial ?_
      obtain ⟨y3, m3, hc3, hg⟩ := rf_b_some hg
      refine rf_callv C rf_fit0 j_X11_refused (ci := 11) (As := [.int 5]) (rest := []) mw_X11_refused (c_X11_refused hc3) (by decide) rfl (by decide) lk_11_105 rfl rfl (Nat.le_of_ble_eq_true rfl) (by decide +kernel) ?_
      show rf_V 2 (rf_sh w) K 0 0 51 ([(0, .ref 0), (1, .int a1)], [.int y3], rf_MM w m3)
      obtain rfl := Option.some.inj hg
      exact rf_iret C hE (by decide +kernel)
    · replace hg := (if_neg hc).symm.trans hg
      refine rf_seg C [(.aload 0, 1), (.invokeinterface 11 7, 3), (.iload 1, 1)] (pc' := 40) (S' := ([(0, .ref 0), (1, .int a1)], [.int a1, .ref 184], rf_MM w m2)) (by decide +kernel) rfl trivial ?_
      obtain ⟨y4, m4, hc4, hg⟩ := rf_b_some hg
      refine rf_callv C rf_fit0 j_X2_isSuspect (ci := 2) (As := [.int a1]) (rest := []) mw_X2_isSuspect (c_X2_isSuspect hc4) (by decide) rfl (by decide) lk_11_430 rfl rfl (Nat.le_of_ble_eq_true rfl) (by decide +kernel) ?_
      show rf_V 2 (rf_sh w) K 0 0 43 ([(0, .ref 0), (1, .int a1)], [.int y4], rf_MM w m4)
      refine rf_if_eq C 9 52 (by decide +kernel) (fun hc => ?_) (fun hc => ?_)
      · replace hg := (if_pos hc).symm.trans hg
        refine rf_seg C [(.aload 0, 1), (.invokeinterface 11 7, 3), (.invokeinterface 2 1, 3), (.iconst 12, 2)] (pc' := 61) (S' := ([(0, .ref 0), (1, .int a1)], [.int 12, .int (m4.1 184 1)], rf_MM w m4)) (by decide +kernel) rfl trivial ?_
        refine rf_icmp_lt C 9 70 (by decide +kernel) (fun hc => ?_) (fun hc => ?_)
        · replace hg := (if_pos hc).symm.trans hg
          refine rf_seg C [(.aload 0, 1), (.aload 0, 1), (.invokeinterface 11 7, 3), (.iload 1, 1)] (pc' := 76) (S' := ([(0, .ref 0), (1, .int a1)], [.int a1, .ref 184, .ref 0], rf_MM w m4)) (by decide +kernel) rfl trivial ?_
          obtain ⟨y5, m5, hc5, hg⟩ := rf_b_some hg
          refine rf_callv C rf_fit0 j_X2_addSuspect (ci := 2) (As := [.int a1]) (rest := [.ref 0]) mw_X2_addSuspect (c_X2_addSuspect hc5) (by decide) rfl (by decide) lk_11_436 rfl rfl (Nat.le_of_ble_eq_true rfl) (by decide +kernel) ?_
          show rf_V 2 (rf_sh w) K 0 0 79 ([(0, .ref 0), (1, .int a1)], [.int y5, .ref 0], rf_MM w m5)
          obtain ⟨y6, m6, hc6, hg⟩ := rf_b_some hg
          refine rf_callv C rf_fit0 j_X11_answered (ci := 11) (As := [.int y5]) (rest := []) mw_X11_answered (c_X11_answered hc6) (by decide) rfl (by decide) lk_11_119 rfl rfl (Nat.le_of_ble_eq_true rfl) (by decide +kernel) ?_
          show rf_V 2 (rf_sh w) K 0 0 82 ([(0, .ref 0), (1, .int a1)], [.int y6], rf_MM w m6)
          obtain rfl := Option.some.inj hg
          exact rf_iret C hE (by decide +kernel)
        · replace hg := (if_neg hc).symm.trans hg
          refine rf_seg C [(.aload 0, 1), (.iconst 3, 1)] (pc' := 66) (S' := ([(0, .ref 0), (1, .int a1)], [.int 3, .ref 0], rf_MM w m4)) (by decide +kernel) rfl trivial ?_
          obtain ⟨y7, m7, hc7, hg⟩ := rf_b_some hg
          refine rf_callv C rf_fit0 j_X11_refused (ci := 11) (As := [.int 3]) (rest := []) mw_X11_refused (c_X11_refused hc7) (by decide) rfl (by decide) lk_11_105 rfl rfl (Nat.le_of_ble_eq_true rfl) (by decide +kernel) ?_
          show rf_V 2 (rf_sh w) K 0 0 69 ([(0, .ref 0), (1, .int a1)], [.int y7], rf_MM w m7)
          obtain rfl := Option.some.inj hg
          exact rf_iret C hE (by decide +kernel)
      · replace hg := (if_neg hc).symm.trans hg
        refine rf_seg C [(.aload 0, 1), (.iconst 5, 1)] (pc' := 48) (S' := ([(0, .ref 0), (1, .int a1)], [.int 5, .ref 0], rf_MM w m4)) (by decide +kernel) rfl trivial ?_
        obtain ⟨y8, m8, hc8, hg⟩ := rf_b_some hg
        refine rf_callv C rf_fit0 j_X11_refused (ci := 11) (As := [.int 5]) (rest := []) mw_X11_refused (c_X11_refused hc8) (by decide) rfl (by decide) lk_11_105 rfl rfl (Nat.le_of_ble_eq_true rfl) (by decide +kernel) ?_
        show rf_V 2 (rf_sh w) K 0 0 51 ([(0, .ref 0), (1, .int a1)], [.int y8], rf_MM w m8)
        obtain rfl := Option.some.inj hg
        exact rf_iret C hE (by decide +kernel)
  · replace hg := (if_pos hc).symm.trans hg
    refine rf_seg C [(.aload 0, 1), (.iconst 1, 1)] (pc' := 13) (S' := ([(0, .ref 0), (1, .int a1)], [.int 1, .ref 0], rf_MM w m0)) (by decide +kernel) rfl trivial ?_
    obtain ⟨y9, m9, hc9, hg⟩ := rf_b_some hg
    refine rf_callv C rf_fit0 j_X11_refused (ci := 11) (As := [.int 1]) (rest := []) mw_X11_refused (c_X11_refused hc9) (by decide) rfl (by decide) lk_11_105 rfl rfl (Nat.le_of_ble_eq_true rfl) (by decide +kernel) ?_
    show rf_V 2 (rf_sh w) K 0 0 16 ([(0, .ref 0), (1, .int a1)], [.int y9], rf_MM w m9)
    obtain rfl := Option.some.inj hg
    exact rf_iret C hE (by decide +kernel)
-- X11_clear
abbrev j_X11_clear : rf_J := (11, yX11_clear, cX11_clear, 2, (some .int))
theorem mw_X11_clear : rf_mv j_X11_clear (rf_R 11) 0 := ⟨⟨rf_mem 84 (by decide +kernel), rf_mem 84 (by decide +kernel), rf_mem 0 (by decide +kernel), rf_mem 84 (by decide +kernel)⟩, by decide +kernel, by decide⟩
def g_X11_clear (w : rf_w) (m : rf_m) : Option (Int32 × rf_m) := some (m.1 184 1, rf_i m 184 1 0)
theorem c_X11_clear {w : rf_w} {m : rf_m} {r : Int32 × rf_m} (hg : g_X11_clear w m = some r) : rf_Con j_X11_clear 1 (rf_sh w) [.ref 0] (rf_MM w m) (some (.int r.1)) (rf_MM w r.2) := by
  refine rf_con j_X11_clear 1 ⟨by decide +kernel, rfl, Nat.le_of_ble_eq_true rfl⟩ (fun K C hE => ?_)
  unfold g_X11_clear at hg
  show rf_V 2 (rf_sh w) K 0 0 0 ([(0, .ref 0)], [], rf_MM w m)
  refine rf_seg C [(.aload 0, 1), (.invokeinterface 11 7, 3), (.invokeinterface 2 1, 3), (.istore 1, 1), (.aload 0, 1), (.invokeinterface 11 7, 3), (.iconst 0, 1), (.multianewarray 2 1, 3), (.iload 1, 1)] (pc' := 17) (S' := ([(1, .int (m.1 184 1)), (0, .ref 0)], [.int (m.1 184 1)], rf_MM w (rf_i m 184 1 0))) (by decide +kernel) rfl trivial ?_
  obtain rfl := Option.some.inj hg
  exact rf_iret C hE (by decide +kernel)
-- X11_blunder
abbrev j_X11_blunder : rf_J := (11, yX11_blunder, cX11_blunder, 1, (some .int))
theorem mw_X11_blunder : rf_mv j_X11_blunder (rf_R 11) 0 := ⟨⟨rf_mem 84 (by decide +kernel), rf_mem 85 (by decide +kernel), rf_mem 0 (by decide +kernel), rf_mem 85 (by decide +kernel)⟩, by decide +kernel, by decide⟩
def g_X11_blunder (w : rf_w) (m : rf_m) : Option (Int32 × rf_m) := rf_bv (g_X3_freshenAll w m) fun m0 => rf_b (g_X9_allowedMiss w m0 (m0.1 0 10)) fun y1 m1 => rf_b (g_X2_fewest w m1 y1) fun y2 m2 => some (y2, m2)
theorem c_X11_blunder {w : rf_w} {m : rf_m} {r : Int32 × rf_m} (hg : g_X11_blunder w m = some r) : rf_Con j_X11_blunder 8 (rf_sh w) [.ref 0] (rf_MM w m) (some (.int r.1)) (rf_MM w r.2) := by
  refine rf_con j_X11_blunder 8 ⟨by decide +kernel, rfl, Nat.le_of_ble_eq_true rfl⟩ (fun K C hE => ?_)
  unfold g_X11_blunder at hg
  show rf_V 1 (rf_sh w) K 0 0 0 ([(0, .ref 0)], [], rf_MM w m)
  refine rf_seg C [(.aload 0, 1), (.invokeinterface 11 2, 3)] (pc' := 4) (S' := ([(0, .ref 0)], [.ref 26], rf_MM w m)) (by decide +kernel) rfl trivial ?_
  obtain ⟨m0, hc0, hg⟩ := rf_bv_some hg
  refine rf_callv C rf_fit0 j_X3_freshenAll (ci := 3) (As := []) (rest := []) mw_X3_freshenAll (c_X3_freshenAll hc0) (by decide) rfl (by decide) lk_11_346 rfl rfl (Nat.le_of_ble_eq_true rfl) (by decide +kernel) ?_
  show rf_V 1 (rf_sh w) K 0 0 7 ([(0, .ref 0)], [], rf_MM w m0)
  refine rf_seg C [(.aload 0, 1), (.invokeinterface 11 7, 3), (.aload 0, 1), (.invokeinterface 11 1, 3), (.aload 0, 1), (.invokeinterface 11 10, 3)] (pc' := 19) (S' := ([(0, .ref 0)], [.int (m0.1 0 10), .ref 13, .ref 184], rf_MM w m0)) (by decide +kernel) rfl trivial ?_
  obtain ⟨y1, m1, hc1, hg⟩ := rf_b_some hg
  refine rf_callv C rf_fit0 j_X9_allowedMiss (ci := 9) (As := [.int (m0.1 0 10)]) (rest := [.ref 184]) mw_X9_allowedMiss (c_X9_allowedMiss hc1) (by decide) rfl (by decide) lk_11_285 rfl rfl (Nat.le_of_ble_eq_true rfl) (by decide +kernel) ?_
  show rf_V 1 (rf_sh w) K 0 0 22 ([(0, .ref 0)], [.int y1, .ref 184], rf_MM w m1)
  obtain ⟨y2, m2, hc2, hg⟩ := rf_b_some hg
  refine rf_callv C rf_fit0 j_X2_fewest (ci := 2) (As := [.int y1]) (rest := []) mw_X2_fewest (c_X2_fewest hc2) (by decide) rfl (by decide) lk_11_439 rfl rfl (Nat.le_of_ble_eq_true rfl) (by decide +kernel) ?_
  show rf_V 1 (rf_sh w) K 0 0 25 ([(0, .ref 0)], [.int y2], rf_MM w m2)
  obtain rfl := Option.some.inj hg
  exact rf_iret C hE (by decide +kernel)
-- X11_guilty
abbrev j_X11_guilty : rf_J := (11, yX11_guilty, cX11_guilty, 2, (some .int))
theorem mw_X11_guilty : rf_mv j_X11_guilty (rf_R 11) 1 := ⟨⟨rf_mem 87 (by decide +kernel), rf_mem 87 (by decide +kernel), rf_mem 0 (by decide +kernel), rf_mem 87 (by decide +kernel)⟩, by decide +kernel, by decide⟩
def g_X11_guilty (w : rf_w) (m : rf_m) (a1 : Int32) : Option (Int32 × rf_m) := rf_b (g_X11_isWithin w m a1 0 ((m.1 184 2) - 1)) fun y0 m0 => (if y0 = 0 then some ((-1), m0) else rf_g (rf_in a1 12) (some (m0.1 185 (Int32.toNatClampNeg a1), m0)))
theorem c_X11_guilty {w : rf_w} {m : rf_m} {a1 : Int32} {r : Int32 × rf_m} (hg : g_X11_guilty w m a1 = some r) : rf_Con j_X11_guilty 2 (rf_sh w) [.ref 0, .int a1] (rf_MM w m) (some (.int r.1)) (rf_MM w r.2) := by
  refine rf_con j_X11_guilty 2 ⟨by decide +kernel, rfl, Nat.le_of_ble_eq_true rfl⟩ (fun K C hE => ?_)
  unfold g_X11_guilty at hg
  show rf_V 2 (rf_sh w) K 0 0 0 ([(0, .ref 0), (1, .int a1)], [], rf_MM w m)
  refine rf_seg C [(.iload 1, 1), (.iconst 0, 1), (.aload 0, 1), (.invokeinterface 11 7, 3), (.invokeinterface 2 2, 3), (.iconst 1, 1), (.isub, 1)] (pc' := 11) (S' := ([(0, .ref 0), (1, .int a1)], [.int ((m.1 184 2) - 1), .int 0, .int a1], rf_MM w m)) (by decide +kernel) rfl trivial ?_
  obtain ⟨y0, m0, hc0, hg⟩ := rf_b_some hg
  refine rf_calls C rf_fit0 j_X11_isWithin (As := [.int a1, .int 0, .int ((m.1 184 2) - 1)]) (rest := []) mw_X11_isWithin (c_X11_isWithin hc0) (by decide) lk_11_91 rfl rfl (Nat.le_of_ble_eq_true rfl) (by decide +kernel) ?_
  show rf_V 2 (rf_sh w) K 0 0 14 ([(0, .ref 0), (1, .int a1)], [.int y0], rf_MM w m0)
  refine rf_if_eq C 15 29 (by decide +kernel) (fun hc => ?_) (fun hc => ?_)
  · replace hg := (if_pos hc).symm.trans hg
    refine rf_seg C [(.iconst (-1), 1)] (pc' := 30) (S' := ([(0, .ref 0), (1, .int a1)], [.int ((-1))], rf_MM w m0)) (by decide +kernel) rfl trivial ?_
    obtain rfl := Option.some.inj hg
    exact rf_iret C hE (by decide +kernel)
  · replace hg := (if_neg hc).symm.trans hg
    obtain ⟨q1, hg⟩ := rf_g_some hg
    refine rf_seg C [(.aload 0, 1), (.invokeinterface 11 7, 3), (.invokeinterface 2 0, 3), (.iload 1, 1), (.iaload, 1)] (pc' := 26) (S' := ([(0, .ref 0), (1, .int a1)], [.int (m0.1 185 (Int32.toNatClampNeg a1))], rf_MM w m0)) (by decide +kernel) rfl (rf_in_of q1) ?_
    refine rf_goto C 4 30 (by decide +kernel) ?_
    obtain rfl := Option.some.inj hg
    exact rf_iret C hE (by decide +kernel)
-- X11_rivals
abbrev j_X11_rivals : rf_J := (11, yX11_rivals, cX11_rivals, 1, (some .int))
theorem mw_X11_rivals : rf_mv j_X11_rivals (rf_R 11) 0 := ⟨⟨rf_mem 87 (by decide +kernel), rf_mem 87 (by decide +kernel), rf_mem 0 (by decide +kernel), rf_mem 87 (by decide +kernel)⟩, by decide +kernel, by decide⟩
def g_X11_rivals (w : rf_w) (m : rf_m) : Option (Int32 × rf_m) := some (m.1 184 3, m)
theorem c_X11_rivals {w : rf_w} {m : rf_m} {r : Int32 × rf_m} (hg : g_X11_rivals w m = some r) : rf_Con j_X11_rivals 1 (rf_sh w) [.ref 0] (rf_MM w m) (some (.int r.1)) (rf_MM w r.2) := by
  refine rf_con j_X11_rivals 1 ⟨by decide +kernel, rfl, Nat.le_of_ble_eq_true rfl⟩ (fun K C hE => ?_)
  unfold g_X11_rivals at hg
  show rf_V 1 (rf_sh w) K 0 0 0 ([(0, .ref 0)], [], rf_MM w m)
  refine rf_seg C [(.aload 0, 1), (.invokeinterface 11 7, 3), (.invokeinterface 2 3, 3)] (pc' := 7) (S' := ([(0, .ref 0)], [.int (m.1 184 3)], rf_MM w m)) (by decide +kernel) rfl trivial ?_
  obtain rfl := Option.some.inj hg
  exact rf_iret C hE (by decide +kernel)
-- X11_star
abbrev j_X11_star : rf_J := (11, yX11_star, cX11_star, 5, (some .int))
theorem mw_X11_star : rf_mv j_X11_star (rf_R 11) 4 := ⟨⟨rf_mem 87 (by decide +kernel), rf_mem 87 (by decide +kernel), rf_mem 0 (by decide +kernel), rf_mem 87 (by decide +kernel)⟩, by decide +kernel, by decide⟩
def g_X11_star (w : rf_w) (m : rf_m) (a1 : Int32) (a2 : Int32) (a3 : Int32) (a4 : Int32) : Option (Int32 × rf_m) := rf_b (g_X5_isPair w m a1 a2) fun y0 m0 => (if y0 = 0 then rf_b (g_X11_refused w m0 1) fun y8 m8 => some (y8, m8) else rf_b (g_X11_isWithin w m0 a3 0 12959999) fun y1 m1 => (if y1 = 0 then rf_b (g_X11_refused w m1 2) fun y2 m2 => some (y2, m2) else rf_b (g_X11_isHour w m1 a4) fun y3 m3 => (if y3 = 0 then rf_b (g_X11_refused w m3 2) fun y7 m7 => some (y7, m7) else (if (m3.1 193 0) < 20 then rf_b (g_X10_addStar w m3 a1 a2 a3) fun y4 m4 => rf_b (g_X11_answered w m4 y4) fun y5 m5 => some (y5, m5) else rf_b (g_X11_refused w m3 3) fun y6 m6 => some (y6, m6)))))
theorem c_X11_star {w : rf_w} {m : rf_m} {a1 : Int32} {a2 : Int32} {a3 : Int32} {a4 : Int32} {r : Int32 × rf_m} (hg : g_X11_star w m a1 a2 a3 a4 = some r) : rf_Con j_X11_star 3 (rf_sh w) [.ref 0, .int a1, .int a2, .int a3, .int a4] (rf_MM w m) (some (.int r.1)) (rf_MM w r.2) := by
  refine rf_con j_X11_star 3 ⟨by decide +kernel, rfl, Nat.le_of_ble_eq_true rfl⟩ (fun K C hE => ?_)
  unfold g_X11_star at hg
  show rf_V 5 (rf_sh w) K 0 0 0 ([(0, .ref 0), (1, .int a1), (2, .int a2), (3, .int a3), (4, .int a4)], [], rf_MM w m)
  refine rf_seg C [(.aload 0, 1), (.invokeinterface 11 0, 3), (.iload 1, 1), (.iload 2, 1)] (pc' := 6) (S' := ([(0, .ref 0), (1, .int a1), (2, .int a2), (3, .int a3), (4, .int a4)], [.int a2, .int a1, .ref 1], rf_MM w m)) (by decide +kernel) rfl trivial ?_
  obtain ⟨y0, m0, hc0, hg⟩ := rf_b_some hg
  refine rf_callv C rf_fit0 j_X5_isPair (ci := 5) (As := [.int a1, .int a2]) (rest := []) mw_X5_isPair (c_X5_isPair hc0) (by decide) rfl (by decide) lk_11_145 rfl rfl (Nat.le_of_ble_eq_true rfl) (by decide +kernel) ?_
  show rf_V 5 (rf_sh w) K 0 0 9 ([(0, .ref 0), (1, .int a1), (2, .int a2), (3, .int a3), (4, .int a4)], [.int y0], rf_MM w m0)
  refine rf_if_ne C 9 18 (by decide +kernel) (fun hc => ?_) (fun hc => ?_)
  · replace hg := (if_neg hc).symm.trans hg
    refine rf_seg C [(.iload 3, 1), (.iconst 0, 1), (.iconst 12959999, 3)] (pc' := 23) (S' := ([(0, .ref 0), (1, .int a1), (2, .int a2), (3, .int a3), (4, .int a4)], [.int 12959999, .int 0, .int a3], rf_MM w m0)) (by decide +kernel) rfl trivial ?_
    obtain ⟨y1, m1, hc1, hg⟩ := rf_b_some hg
    refine rf_calls C rf_fit0 j_X11_isWithin (As := [.int a3, .int 0, .int 12959999]) (rest := []) mw_X11_isWithin (c_X11_isWithin hc1) (by decide) lk_11_91 rfl rfl (Nat.le_of_ble_eq_true rfl) (by decide +kernel) ?_
    show rf_V 5 (rf_sh w) K 0 0 26 ([(0, .ref 0), (1, .int a1), (2, .int a2), (3, .int a3), (4, .int a4)], [.int y1], rf_MM w m1)
    refine rf_if_eq C 11 37 (by decide +kernel) (fun hc => ?_) (fun hc => ?_)
    · replace hg := (if_pos hc).symm.trans hg
      refine rf_seg C [(.aload 0, 1), (.iconst 2, 1)] (pc' := 39) (S' := ([(0, .ref 0), (1, .int a1), (2, .int a2), (3, .int a3), (4, .int a4)], [.int 2, .ref 0], rf_MM w m1)) (by decide +kernel) rfl trivial ?_
      obtain ⟨y2, m2, hc2, hg⟩ := rf_b_some hg
      refine rf_callv C rf_fit0 j_X11_refused (ci := 11) (As := [.int 2]) (rest := []) mw_X11_refused (c_X11_refused hc2) (by decide) rfl (by decide) lk_11_105 rfl rfl (Nat.le_of_ble_eq_true rfl) (by decide +kernel) ?_
      show rf_V 5 (rf_sh w) K 0 0 42 ([(0, .ref 0), (1, .int a1), (2, .int a2), (3, .int a3), (4, .int a4)], [.int y2], rf_MM w m2)
      obtain rfl := Option.some.inj hg
      exact rf_iret C hE (by decide +kernel)
    · replace hg := (if_neg hc).symm.trans hg
      refine rf_seg C [(.iload 4, 2)] (pc' := 31) (S' := ([(0, .ref 0), (1, .int a1), (2, .int a2), (3, .int a3), (4, .int a4)], [.int a4], rf_MM w m1)) (by decide +kernel) rfl trivial ?_
      obtain ⟨y3, m3, hc3, hg⟩ := rf_b_some hg
      refine rf_calls C rf_fit0 j_X11_isHour (As := [.int a4]) (rest := []) mw_X11_isHour (c_X11_isHour hc3) (by decide) lk_11_139 rfl rfl (Nat.le_of_ble_eq_true rfl) (by decide +kernel) ?_
      show rf_V 5 (rf_sh w) K 0 0 34 ([(0, .ref 0), (1, .int a1), (2, .int a2), (3, .int a3), (4, .int a4)], [.int y3], rf_MM w m3)
      refine rf_if_ne C 9 43 (by decide +kernel) (fun hc => ?_) (fun hc => ?_)
      · replace hg := (if_neg hc).symm.trans hg
        refine rf_seg C [(.aload 0, 1), (.invokeinterface 11 8, 3), (.invokeinterface 10 0, 3), (.iconst 20, 2)] (pc' := 52) (S' := ([(0, .ref 0), (1, .int a1), (2, .int a2), (3, .int a3), (4, .int a4)], [.int 20, .int (m3.1 193 0)], rf_MM w m3)) (by decide +kernel) rfl trivial ?_
        refine rf_icmp_lt C 9 61 (by decide +kernel) (fun hc => ?_) (fun hc => ?_)
        · replace hg := (if_pos hc).symm.trans hg
          refine rf_seg C [(.aload 0, 1), (.aload 0, 1), (.invokeinterface 11 8, 3), (.iload 1, 1), (.iload 2, 1), (.iload 3, 1)] (pc' := 69) (S' := ([(0, .ref 0), (1, .int a1), (2, .int a2), (3, .int a3), (4, .int a4)], [.int a3, .int a2, .int a1, .ref 193, .ref 0], rf_MM w m3)) (by decide +kernel) rfl trivial ?_
          obtain ⟨y4, m4, hc4, hg⟩ := rf_b_some hg
          refine rf_callv C rf_fit0 j_X10_addStar (ci := 10) (As := [.int a1, .int a2, .int a3]) (rest := [.ref 0]) mw_X10_addStar (c_X10_addStar hc4) (by decide) rfl (by decide) lk_11_455 rfl rfl (Nat.le_of_ble_eq_true rfl) (by decide +kernel) ?_
          show rf_V 5 (rf_sh w) K 0 0 72 ([(0, .ref 0), (1, .int a1), (2, .int a2), (3, .int a3), (4, .int a4)], [.int y4, .ref 0], rf_MM w m4)
          obtain ⟨y5, m5, hc5, hg⟩ := rf_b_some hg
          refine rf_callv C rf_fit0 j_X11_answered (ci := 11) (As := [.int y4]) (rest := []) mw_X11_answered (c_X11_answered hc5) (by decide) rfl (by decide) lk_11_119 rfl rfl (Nat.le_of_ble_eq_true rfl) (by decide +kernel) ?_
          show rf_V 5 (rf_sh w) K 0 0 75 ([(0, .ref 0), (1, .int a1), (2, .int a2), (3, .int a3), (4, .int a4)], [.int y5], rf_MM w m5)
          obtain rfl := Option.some.inj hg
          exact rf_iret C hE (by decide +kernel)
        · replace hg := (if_neg hc).symm.trans hg
          refine rf_seg C [(.aload 0, 1), (.iconst 3, 1)] (pc' := 57) (S' := ([(0, .ref 0), (1, .int a1), (2, .int a2), (3, .int a3), (4, .int a4)], [.int 3, .ref 0], rf_MM w m3)) (by decide +kernel) rfl trivial ?_
          obtain ⟨y6, m6, hc6, hg⟩ := rf_b_some hg
          refine rf_callv C rf_fit0 j_X11_refused (ci := 11) (As := [.int 3]) (rest := []) mw_X11_refused (c_X11_refused hc6) (by decide) rfl (by decide) lk_11_105 rfl rfl (Nat.le_of_ble_eq_true rfl) (by decide +kernel) ?_
          show rf_V 5 (rf_sh w) K 0 0 60 ([(0, .ref 0), (1, .int a1), (2, .int a2), (3, .int a3), (4, .int a4)], [.int y6], rf_MM w m6)
          obtain rfl := Option.some.inj hg
          exact rf_iret C hE (by decide +kernel)
      · replace hg := (if_pos hc).symm.trans hg
        refine rf_seg C [(.aload 0, 1), (.iconst 2, 1)] (pc' := 39) (S' := ([(0, .ref 0), (1, .int a1), (2, .int a2), (3, .int a3), (4, .int a4)], [.int 2, .ref 0], rf_MM w m3)) (by decide +kernel) rfl trivial ?_
        obtain ⟨y7, m7, hc7, hg⟩ := rf_b_some hg
        refine rf_callv C rf_fit0 j_X11_refused (ci := 11) (As := [.int 2]) (rest := []) mw_X11_refused (c_X11_refused hc7) (by decide) rfl (by decide) lk_11_105 rfl rfl (Nat.le_of_ble_eq_true rfl) (by decide +kernel) ?_
        show rf_V 5 (rf_sh w) K 0 0 42 ([(0, .ref 0), (1, .int a1), (2, .int a2), (3, .int a3), (4, .int a4)], [.int y7], rf_MM w m7)
        obtain rfl := Option.some.inj hg
        exact rf_iret C hE (by decide +kernel)
  · replace hg := (if_pos hc).symm.trans hg
    refine rf_seg C [(.aload 0, 1), (.iconst 1, 1)] (pc' := 14) (S' := ([(0, .ref 0), (1, .int a1), (2, .int a2), (3, .int a3), (4, .int a4)], [.int 1, .ref 0], rf_MM w m0)) (by decide +kernel) rfl trivial ?_
    obtain ⟨y8, m8, hc8, hg⟩ := rf_b_some hg
    refine rf_callv C rf_fit0 j_X11_refused (ci := 11) (As := [.int 1]) (rest := []) mw_X11_refused (c_X11_refused hc8) (by decide) rfl (by decide) lk_11_105 rfl rfl (Nat.le_of_ble_eq_true rfl) (by decide +kernel) ?_
    show rf_V 5 (rf_sh w) K 0 0 17 ([(0, .ref 0), (1, .int a1), (2, .int a2), (3, .int a3), (4, .int a4)], [.int y8], rf_MM w m8)
    obtain rfl := Option.some.inj hg
    exact rf_iret C hE (by decide +kernel)
-- X11_north
abbrev j_X11_north : rf_J := (11, yX11_north, cX11_north, 3, (some .int))
theorem mw_X11_north : rf_mv j_X11_north (rf_R 11) 2 := ⟨⟨rf_mem 88 (by decide +kernel), rf_mem 88 (by decide +kernel), rf_mem 0 (by decide +kernel), rf_mem 88 (by decide +kernel)⟩, by decide +kernel, by decide⟩
def g_X11_north (w : rf_w) (m : rf_m) (a1 : Int32) (a2 : Int32) : Option (Int32 × rf_m) := rf_b (g_X5_isPair w m a1 a2) fun y0 m0 => (if y0 = 0 then some ((-1), m0) else rf_bv (g_X3_freshenAll w m0) fun m1 => rf_bv (g_X10_carryNorth w m1 a1 a2) fun m2 => rf_b (g_X10_northOf w m2 a1 a2) fun y3 m3 => some (y3, m3))
theorem c_X11_north {w : rf_w} {m : rf_m} {a1 : Int32} {a2 : Int32} {r : Int32 × rf_m} (hg : g_X11_north w m a1 a2 = some r) : rf_Con j_X11_north 8 (rf_sh w) [.ref 0, .int a1, .int a2] (rf_MM w m) (some (.int r.1)) (rf_MM w r.2) := by
  refine rf_con j_X11_north 8 ⟨by decide +kernel, rfl, Nat.le_of_ble_eq_true rfl⟩ (fun K C hE => ?_)
  unfold g_X11_north at hg
  show rf_V 3 (rf_sh w) K 0 0 0 ([(0, .ref 0), (1, .int a1), (2, .int a2)], [], rf_MM w m)
  refine rf_seg C [(.aload 0, 1), (.invokeinterface 11 0, 3), (.iload 1, 1), (.iload 2, 1)] (pc' := 6) (S' := ([(0, .ref 0), (1, .int a1), (2, .int a2)], [.int a2, .int a1, .ref 1], rf_MM w m)) (by decide +kernel) rfl trivial ?_
  obtain ⟨y0, m0, hc0, hg⟩ := rf_b_some hg
  refine rf_callv C rf_fit0 j_X5_isPair (ci := 5) (As := [.int a1, .int a2]) (rest := []) mw_X5_isPair (c_X5_isPair hc0) (by decide) rfl (by decide) lk_11_145 rfl rfl (Nat.le_of_ble_eq_true rfl) (by decide +kernel) ?_
  show rf_V 3 (rf_sh w) K 0 0 9 ([(0, .ref 0), (1, .int a1), (2, .int a2)], [.int y0], rf_MM w m0)
  refine rf_if_ne C 5 14 (by decide +kernel) (fun hc => ?_) (fun hc => ?_)
  · replace hg := (if_neg hc).symm.trans hg
    refine rf_seg C [(.aload 0, 1), (.invokeinterface 11 2, 3)] (pc' := 18) (S' := ([(0, .ref 0), (1, .int a1), (2, .int a2)], [.ref 26], rf_MM w m0)) (by decide +kernel) rfl trivial ?_
    obtain ⟨m1, hc1, hg⟩ := rf_bv_some hg
    refine rf_callv C rf_fit0 j_X3_freshenAll (ci := 3) (As := []) (rest := []) mw_X3_freshenAll (c_X3_freshenAll hc1) (by decide) rfl (by decide) lk_11_346 rfl rfl (Nat.le_of_ble_eq_true rfl) (by decide +kernel) ?_
    show rf_V 3 (rf_sh w) K 0 0 21 ([(0, .ref 0), (1, .int a1), (2, .int a2)], [], rf_MM w m1)
    refine rf_seg C [(.aload 0, 1), (.invokeinterface 11 8, 3), (.iload 1, 1), (.iload 2, 1)] (pc' := 27) (S' := ([(0, .ref 0), (1, .int a1), (2, .int a2)], [.int a2, .int a1, .ref 193], rf_MM w m1)) (by decide +kernel) rfl trivial ?_
    obtain ⟨m2, hc2, hg⟩ := rf_bv_some hg
    refine rf_callv C rf_fit0 j_X10_carryNorth (ci := 10) (As := [.int a1, .int a2]) (rest := []) mw_X10_carryNorth (c_X10_carryNorth hc2) (by decide) rfl (by decide) lk_11_458 rfl rfl (Nat.le_of_ble_eq_true rfl) (by decide +kernel) ?_
    show rf_V 3 (rf_sh w) K 0 0 30 ([(0, .ref 0), (1, .int a1), (2, .int a2)], [], rf_MM w m2)
    refine rf_seg C [(.aload 0, 1), (.invokeinterface 11 8, 3), (.iload 1, 1), (.iload 2, 1)] (pc' := 36) (S' := ([(0, .ref 0), (1, .int a1), (2, .int a2)], [.int a2, .int a1, .ref 193], rf_MM w m2)) (by decide +kernel) rfl trivial ?_
    obtain ⟨y3, m3, hc3, hg⟩ := rf_b_some hg
    refine rf_callv C rf_fit0 j_X10_northOf (ci := 10) (As := [.int a1, .int a2]) (rest := []) mw_X10_northOf (c_X10_northOf hc3) (by decide) rfl (by decide) lk_11_461 rfl rfl (Nat.le_of_ble_eq_true rfl) (by decide +kernel) ?_
    show rf_V 3 (rf_sh w) K 0 0 39 ([(0, .ref 0), (1, .int a1), (2, .int a2)], [.int y3], rf_MM w m3)
    obtain rfl := Option.some.inj hg
    exact rf_iret C hE (by decide +kernel)
  · replace hg := (if_pos hc).symm.trans hg
    refine rf_seg C [(.iconst (-1), 1)] (pc' := 13) (S' := ([(0, .ref 0), (1, .int a1), (2, .int a2)], [.int ((-1))], rf_MM w m0)) (by decide +kernel) rfl trivial ?_
    obtain rfl := Option.some.inj hg
    exact rf_iret C hE (by decide +kernel)
