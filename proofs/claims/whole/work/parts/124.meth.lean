/-! methods as functions, and their contracts (written by wip/tool/gen.py) -/
-- X14_isWord
abbrev j_X14_isWord : rf_J := (14, yX14_isWord, cX14_isWord, 2, (some .boolean))
theorem mw_X14_isWord : rf_mv j_X14_isWord (rf_R 14) 1 := ⟨⟨rf_mem 48 (by decide +kernel), rf_mem 48 (by decide +kernel), rf_mem 0 (by decide +kernel), rf_mem 48 (by decide +kernel)⟩, by decide +kernel, by decide⟩
def g_X14_isWord (w : rf_w) (m : rf_m) (a1 : Nat) : Option (Int32 × rf_m) := rf_g (rf_isS a1) ((if (m.1 206 47) = 2 then rf_b (g_X14_wordOf w m a1) fun y1 m1 => (if (lg_cmp (m.2 206 53) y1) = 0 then some (1, m1) else some (0, m1)) else some (0, m)))
theorem c_X14_isWord {w : rf_w} {m : rf_m} {a1 : Nat} {r : Int32 × rf_m} (hg : g_X14_isWord w m a1 = some r) : rf_Con j_X14_isWord 6 (rf_sh w) [.ref 206, .ref a1] (rf_MM w m) (some (.int r.1)) (rf_MM w r.2) := by
  refine rf_con j_X14_isWord 6 ⟨by decide +kernel, rfl, Nat.le_of_ble_eq_true rfl⟩ (fun K C hE => ?_)
  unfold g_X14_isWord at hg
  show rf_V 2 (rf_sh w) K 0 0 0 ([(0, .ref 206), (1, .ref a1)], [], rf_MM w m)
  obtain ⟨q0, hg⟩ := rf_g_some hg
  refine rf_seg C [(.aload 0, 1), (.invokeinterface 14 47, 3), (.iconst 2, 1)] (pc' := 5) (S' := ([(0, .ref 206), (1, .ref a1)], [.int 2, .int (m.1 206 47)], rf_MM w m)) (by decide +kernel) rfl trivial ?_
  refine rf_icmp_ne C 19 24 (by decide +kernel) (fun hc => ?_) (fun hc => ?_)
  · replace hg := (if_neg hc).symm.trans hg
    refine rf_seg C [(.iconst 0, 1)] (pc' := 25) (S' := ([(0, .ref 206), (1, .ref a1)], [.int 0], rf_MM w m)) (by decide +kernel) rfl trivial ?_
    obtain rfl := Option.some.inj hg
    exact rf_zret C hE (by decide) (by decide +kernel)
  · replace hg := (if_pos hc).symm.trans hg
    refine rf_seg C [(.aload 0, 1), (.invokeinterface 14 53, 3), (.aload 1, 1)] (pc' := 13) (S' := ([(0, .ref 206), (1, .ref a1)], [.ref a1, .long (m.2 206 53)], rf_MM w m)) (by decide +kernel) rfl trivial ?_
    obtain ⟨y1, m1, hc1, hg⟩ := rf_b_some hg
    refine rf_calls C rf_fit0 j_X14_wordOf (As := [.ref a1]) (rest := [.long (m.2 206 53)]) mw_X14_wordOf (c_X14_wordOf hc1) (by decide) lk_14_535 rfl rfl (Nat.le_of_ble_eq_true rfl) (by decide +kernel) ?_
    show rf_V 2 (rf_sh w) K 0 0 16 ([(0, .ref 206), (1, .ref a1)], [.long y1, .long (m.2 206 53)], rf_MM w m1)
    refine rf_seg C [(.lcmp, 1)] (pc' := 17) (S' := ([(0, .ref 206), (1, .ref a1)], [.int (lg_cmp (m.2 206 53) y1)], rf_MM w m1)) (by decide +kernel) rfl trivial ?_
    refine rf_if_ne C 7 24 (by decide +kernel) (fun hc => ?_) (fun hc => ?_)
    · replace hg := (if_neg hc).symm.trans hg
      refine rf_seg C [(.iconst 0, 1)] (pc' := 25) (S' := ([(0, .ref 206), (1, .ref a1)], [.int 0], rf_MM w m1)) (by decide +kernel) rfl trivial ?_
      obtain rfl := Option.some.inj hg
      exact rf_zret C hE (by decide) (by decide +kernel)
    · replace hg := (if_pos hc).symm.trans hg
      refine rf_seg C [(.iconst 1, 1)] (pc' := 21) (S' := ([(0, .ref 206), (1, .ref a1)], [.int 1], rf_MM w m1)) (by decide +kernel) rfl trivial ?_
      refine rf_goto C 4 25 (by decide +kernel) ?_
      obtain rfl := Option.some.inj hg
      exact rf_zret C hE (by decide) (by decide +kernel)
-- X14_isKept
abbrev j_X14_isKept : rf_J := (14, yX14_isKept, cX14_isKept, 1, (some .boolean))
theorem mw_X14_isKept : rf_mv j_X14_isKept (rf_R 14) 0 := ⟨⟨rf_mem 48 (by decide +kernel), rf_mem 48 (by decide +kernel), rf_mem 0 (by decide +kernel), rf_mem 48 (by decide +kernel)⟩, by decide +kernel, by decide⟩
def g_X14_isKept (w : rf_w) (m : rf_m) : Option (Int32 × rf_m) := rf_b (g_X14_isWord w m 1000017) fun y0 m0 => (if y0 = 0 then rf_b (g_X14_isWord w m0 1000018) fun y1 m1 => (if y1 = 0 then rf_b (g_X14_isWord w m1 1000019) fun y2 m2 => (if y2 = 0 then rf_b (g_X14_isWord w m2 1000020) fun y3 m3 => (if y3 = 0 then some (0, m3) else some (1, m3)) else some (1, m2)) else some (1, m1)) else some (1, m0))
theorem c_X14_isKept {w : rf_w} {m : rf_m} {r : Int32 × rf_m} (hg : g_X14_isKept w m = some r) : rf_Con j_X14_isKept 7 (rf_sh w) [.ref 206] (rf_MM w m) (some (.int r.1)) (rf_MM w r.2) := by
  refine rf_con j_X14_isKept 7 ⟨by decide +kernel, rfl, Nat.le_of_ble_eq_true rfl⟩ (fun K C hE => ?_)
  unfold g_X14_isKept at hg
  show rf_V 1 (rf_sh w) K 0 0 0 ([(0, .ref 206)], [], rf_MM w m)
  refine rf_seg C [(.aload 0, 1)] (pc' := 1) (S' := ([(0, .ref 206)], [.ref 206], rf_MM w m)) (by decide +kernel) rfl trivial ?_
  refine rf_s_ldcw C 1000017 (idx := 539) (by decide +kernel) (by decide +kernel) ?_
  show rf_V 1 (rf_sh w) K 0 0 4 ([(0, .ref 206)], [.ref 1000017, .ref 206], rf_MM w m)
  obtain ⟨y0, m0, hc0, hg⟩ := rf_b_some hg
  refine rf_callv C rf_fit0 j_X14_isWord (ci := 14) (As := [.ref 1000017]) (rest := []) mw_X14_isWord (c_X14_isWord hc0) (by decide) rfl (by decide) lk_14_541 rfl rfl (Nat.le_of_ble_eq_true rfl) (by decide +kernel) ?_
  show rf_V 1 (rf_sh w) K 0 0 7 ([(0, .ref 206)], [.int y0], rf_MM w m0)
  refine rf_if_ne C 33 40 (by decide +kernel) (fun hc => ?_) (fun hc => ?_)
  · replace hg := (if_neg hc).symm.trans hg
    refine rf_seg C [(.iconst 1, 1)] (pc' := 41) (S' := ([(0, .ref 206)], [.int 1], rf_MM w m0)) (by decide +kernel) rfl trivial ?_
    refine rf_goto C 4 45 (by decide +kernel) ?_
    obtain rfl := Option.some.inj hg
    exact rf_zret C hE (by decide) (by decide +kernel)
  · replace hg := (if_pos hc).symm.trans hg
    refine rf_seg C [(.aload 0, 1)] (pc' := 11) (S' := ([(0, .ref 206)], [.ref 206], rf_MM w m0)) (by decide +kernel) rfl trivial ?_
    refine rf_s_ldcw C 1000018 (idx := 545) (by decide +kernel) (by decide +kernel) ?_
    show rf_V 1 (rf_sh w) K 0 0 14 ([(0, .ref 206)], [.ref 1000018, .ref 206], rf_MM w m0)
    obtain ⟨y1, m1, hc1, hg⟩ := rf_b_some hg
    refine rf_callv C rf_fit0 j_X14_isWord (ci := 14) (As := [.ref 1000018]) (rest := []) mw_X14_isWord (c_X14_isWord hc1) (by decide) rfl (by decide) lk_14_541 rfl rfl (Nat.le_of_ble_eq_true rfl) (by decide +kernel) ?_
    show rf_V 1 (rf_sh w) K 0 0 17 ([(0, .ref 206)], [.int y1], rf_MM w m1)
    refine rf_if_ne C 23 40 (by decide +kernel) (fun hc => ?_) (fun hc => ?_)
    · replace hg := (if_neg hc).symm.trans hg
      refine rf_seg C [(.iconst 1, 1)] (pc' := 41) (S' := ([(0, .ref 206)], [.int 1], rf_MM w m1)) (by decide +kernel) rfl trivial ?_
      refine rf_goto C 4 45 (by decide +kernel) ?_
      obtain rfl := Option.some.inj hg
      exact rf_zret C hE (by decide) (by decide +kernel)
    · replace hg := (if_pos hc).symm.trans hg
      refine rf_seg C [(.aload 0, 1)] (pc' := 21) (S' := ([(0, .ref 206)], [.ref 206], rf_MM w m1)) (by decide +kernel) rfl trivial ?_
      refine rf_s_ldcw C 1000019 (idx := 547) (by decide +kernel) (by decide +kernel) ?_
      show rf_V 1 (rf_sh w) K 0 0 24 ([(0, .ref 206)], [.ref 1000019, .ref 206], rf_MM w m1)
      obtain ⟨y2, m2, hc2, hg⟩ := rf_b_some hg
      refine rf_callv C rf_fit0 j_X14_isWord (ci := 14) (As := [.ref 1000019]) (rest := []) mw_X14_isWord (c_X14_isWord hc2) (by decide) rfl (by decide) lk_14_541 rfl rfl (Nat.le_of_ble_eq_true rfl) (by decide +kernel) ?_
      show rf_V 1 (rf_sh w) K 0 0 27 ([(0, .ref 206)], [.int y2], rf_MM w m2)
      refine rf_if_ne C 13 40 (by decide +kernel) (fun hc => ?_) (fun hc => ?_)
      · replace hg := (if_neg hc).symm.trans hg
        refine rf_seg C [(.iconst 1, 1)] (pc' := 41) (S' := ([(0, .ref 206)], [.int 1], rf_MM w m2)) (by decide +kernel) rfl trivial ?_
        refine rf_goto C 4 45 (by decide +kernel) ?_
        obtain rfl := Option.some.inj hg
        exact rf_zret C hE (by decide) (by decide +kernel)
      · replace hg := (if_pos hc).symm.trans hg
        refine rf_seg C [(.aload 0, 1)] (pc' := 31) (S' := ([(0, .ref 206)], [.ref 206], rf_MM w m2)) (by decide +kernel) rfl trivial ?_
        refine rf_s_ldcw C 1000020 (idx := 549) (by decide +kernel) (by decide +kernel) ?_
        show rf_V 1 (rf_sh w) K 0 0 34 ([(0, .ref 206)], [.ref 1000020, .ref 206], rf_MM w m2)
        obtain ⟨y3, m3, hc3, hg⟩ := rf_b_some hg
        refine rf_callv C rf_fit0 j_X14_isWord (ci := 14) (As := [.ref 1000020]) (rest := []) mw_X14_isWord (c_X14_isWord hc3) (by decide) rfl (by decide) lk_14_541 rfl rfl (Nat.le_of_ble_eq_true rfl) (by decide +kernel) ?_
        show rf_V 1 (rf_sh w) K 0 0 37 ([(0, .ref 206)], [.int y3], rf_MM w m3)
        refine rf_if_eq C 7 44 (by decide +kernel) (fun hc => ?_) (fun hc => ?_)
        · replace hg := (if_pos hc).symm.trans hg
          refine rf_seg C [(.iconst 0, 1)] (pc' := 45) (S' := ([(0, .ref 206)], [.int 0], rf_MM w m3)) (by decide +kernel) rfl trivial ?_
          obtain rfl := Option.some.inj hg
          exact rf_zret C hE (by decide) (by decide +kernel)
        · replace hg := (if_neg hc).symm.trans hg
          refine rf_seg C [(.iconst 1, 1)] (pc' := 41) (S' := ([(0, .ref 206)], [.int 1], rf_MM w m3)) (by decide +kernel) rfl trivial ?_
          refine rf_goto C 4 45 (by decide +kernel) ?_
          obtain rfl := Option.some.inj hg
          exact rf_zret C hE (by decide) (by decide +kernel)
-- X14_nameHere
abbrev j_X14_nameHere : rf_J := (14, yX14_nameHere, cX14_nameHere, 1, (some .int))
theorem mw_X14_nameHere : rf_mv j_X14_nameHere (rf_R 14) 0 := ⟨⟨rf_mem 49 (by decide +kernel), rf_mem 49 (by decide +kernel), rf_mem 0 (by decide +kernel), rf_mem 49 (by decide +kernel)⟩, by decide +kernel, by decide⟩
def g_X14_nameHere (w : rf_w) (m : rf_m) : Option (Int32 × rf_m) := rf_b (g_X14_isWord w m 1000026) fun y0 m0 => (if y0 = 0 then rf_b (g_X14_isWord w m0 1000027) fun y1 m1 => (if y1 = 0 then rf_b (g_X14_isWord w m1 1000028) fun y2 m2 => (if y2 = 0 then rf_b (g_X14_isWord w m2 1000029) fun y3 m3 => (if y3 = 0 then rf_b (g_X14_isWord w m3 1000030) fun y4 m4 => (if y4 = 0 then rf_b (g_X14_isWord w m4 1000031) fun y5 m5 => (if y5 = 0 then rf_b (g_X14_isWord w m5 1000032) fun y6 m6 => (if y6 = 0 then some ((-1), m6) else some (6, m6)) else some (5, m5)) else some (4, m4)) else some (3, m3)) else some (2, m2)) else some (1, m1)) else some (0, m0))
theorem c_X14_nameHere {w : rf_w} {m : rf_m} {r : Int32 × rf_m} (hg : g_X14_nameHere w m = some r) : rf_Con j_X14_nameHere 7 (rf_sh w) [.ref 206] (rf_MM w m) (some (.int r.1)) (rf_MM w r.2) := by
  refine rf_con j_X14_nameHere 7 ⟨by decide +kernel, rfl, Nat.le_of_ble_eq_true rfl⟩ (fun K C hE => ?_)
  unfold g_X14_nameHere at hg
  show rf_V 1 (rf_sh w) K 0 0 0 ([(0, .ref 206)], [], rf_MM w m)
  refine rf_seg C [(.aload 0, 1)] (pc' := 1) (S' := ([(0, .ref 206)], [.ref 206], rf_MM w m)) (by decide +kernel) rfl trivial ?_
  refine rf_s_ldcw C 1000026 (idx := 605) (by decide +kernel) (by decide +kernel) ?_
  show rf_V 1 (rf_sh w) K 0 0 4 ([(0, .ref 206)], [.ref 1000026, .ref 206], rf_MM w m)
  obtain ⟨y0, m0, hc0, hg⟩ := rf_b_some hg
  refine rf_callv C rf_fit0 j_X14_isWord (ci := 14) (As := [.ref 1000026]) (rest := []) mw_X14_isWord (c_X14_isWord hc0) (by decide) rfl (by decide) lk_14_541 rfl rfl (Nat.le_of_ble_eq_true rfl) (by decide +kernel) ?_
  show rf_V 1 (rf_sh w) K 0 0 7 ([(0, .ref 206)], [.int y0], rf_MM w m0)
  refine rf_if_eq C 7 14 (by decide +kernel) (fun hc => ?_) (fun hc => ?_)
  · replace hg := (if_pos hc).symm.trans hg
    refine rf_seg C [(.aload 0, 1)] (pc' := 15) (S' := ([(0, .ref 206)], [.ref 206], rf_MM w m0)) (by decide +kernel) rfl trivial ?_
    refine rf_s_ldcw C 1000027 (idx := 607) (by decide +kernel) (by decide +kernel) ?_
    show rf_V 1 (rf_sh w) K 0 0 18 ([(0, .ref 206)], [.ref 1000027, .ref 206], rf_MM w m0)
    obtain ⟨y1, m1, hc1, hg⟩ := rf_b_some hg
    refine rf_callv C rf_fit0 j_X14_isWord (ci := 14) (As := [.ref 1000027]) (rest := []) mw_X14_isWord (c_X14_isWord hc1) (by decide) rfl (by decide) lk_14_541 rfl rfl (Nat.le_of_ble_eq_true rfl) (by decide +kernel) ?_
    show rf_V 1 (rf_sh w) K 0 0 21 ([(0, .ref 206)], [.int y1], rf_MM w m1)
    refine rf_if_eq C 7 28 (by decide +kernel) (fun hc => ?_) (fun hc => ?_)
    · replace hg := (if_pos hc).symm.trans hg
      refine rf_seg C [(.aload 0, 1)] (pc' := 29) (S' := ([(0, .ref 206)], [.ref 206], rf_MM w m1)) (by decide +kernel) rfl trivial ?_
      refine rf_s_ldcw C 1000028 (idx := 609) (by decide +kernel) (by decide +kernel) ?_
      show rf_V 1 (rf_sh w) K 0 0 32 ([(0, .ref 206)], [.ref 1000028, .ref 206], rf_MM w m1)
      obtain ⟨y2, m2, hc2, hg⟩ := rf_b_some hg
      refine rf_callv C rf_fit0 j_X14_isWord (ci := 14) (As := [.ref 1000028]) (rest := []) mw_X14_isWord (c_X14_isWord hc2) (by decide) rfl (by decide) lk_14_541 rfl rfl (Nat.le_of_ble_eq_true rfl) (by decide +kernel) ?_
      show rf_V 1 (rf_sh w) K 0 0 35 ([(0, .ref 206)], [.int y2], rf_MM w m2)
      refine rf_if_eq C 7 42 (by decide +kernel) (fun hc => ?_) (fun hc => ?_)
      · replace hg := (if_pos hc).symm.trans hg
        refine rf_seg C [(.aload 0, 1)] (pc' := 43) (S' := ([(0, .ref 206)], [.ref 206], rf_MM w m2)) (by decide +kernel) rfl trivial ?_
        refine rf_s_ldcw C 1000029 (idx := 611) (by decide +kernel) (by decide +kernel) ?_
        show rf_V 1 (rf_sh w) K 0 0 46 ([(0, .ref 206)], [.ref 1000029, .ref 206], rf_MM w m2)
        obtain ⟨y3, m3, hc3, hg⟩ := rf_b_some hg
        refine rf_callv C rf_fit0 j_X14_isWord (ci := 14) (As := [.ref 1000029]) (rest := []) mw_X14_isWord (c_X14_isWord hc3) (by decide) rfl (by decide) lk_14_541 rfl rfl (Nat.le_of_ble_eq_true rfl) (by decide +kernel) ?_
        show rf_V 1 (rf_sh w) K 0 0 49 ([(0, .ref 206)], [.int y3], rf_MM w m3)
        refine rf_if_eq C 7 56 (by decide +kernel) (fun hc => ?_) (fun hc => ?_)
        · replace hg := (if_pos hc).symm.trans hg
          refine rf_seg C [(.aload 0, 1)] (pc' := 57) (S' := ([(0, .ref 206)], [.ref 206], rf_MM w m3)) (by decide +kernel) rfl trivial ?_
          refine rf_s_ldcw C 1000030 (idx := 613) (by decide +kernel) (by decide +kernel) ?_
          show rf_V 1 (rf_sh w) K 0 0 60 ([(0, .ref 206)], [.ref 1000030, .ref 206], rf_MM w m3)
          obtain ⟨y4, m4, hc4, hg⟩ := rf_b_some hg
          refine rf_callv C rf_fit0 j_X14_isWord (ci := 14) (As := [.ref 1000030]) (rest := []) mw_X14_isWord (c_X14_isWord hc4) (by decide) rfl (by decide) lk_14_541 rfl rfl (Nat.le_of_ble_eq_true rfl) (by decide +kernel) ?_
          show rf_V 1 (rf_sh w) K 0 0 63 ([(0, .ref 206)], [.int y4], rf_MM w m4)
          refine rf_if_eq C 7 70 (by decide +kernel) (fun hc => ?_) (fun hc => ?_)
          · replace hg := (if_pos hc).symm.trans hg
            refine rf_seg C [(.aload 0, 1)] (pc' := 71) (S' := ([(0, .ref 206)], [.ref 206], rf_MM w m4)) (by decide +kernel) rfl trivial ?_
            refine rf_s_ldcw C 1000031 (idx := 615) (by decide +kernel) (by decide +kernel) ?_
            show rf_V 1 (rf_sh w) K 0 0 74 ([(0, .ref 206)], [.ref 1000031, .ref 206], rf_MM w m4)
            obtain ⟨y5, m5, hc5, hg⟩ := rf_b_some hg
            refine rf_callv C rf_fit0 j_X14_isWord (ci := 14) (As := [.ref 1000031]) (rest := []) mw_X14_isWord (c_X14_isWord hc5) (by decide) rfl (by decide) lk_14_541 rfl rfl (Nat.le_of_ble_eq_true rfl) (by decide +kernel) ?_
            show rf_V 1 (rf_sh w) K 0 0 77 ([(0, .ref 206)], [.int y5], rf_MM w m5)
            refine rf_if_eq C 7 84 (by decide +kernel) (fun hc => ?_) (fun hc => ?_)
            · replace hg := (if_pos hc).symm.trans hg
              refine rf_seg C [(.aload 0, 1)] (pc' := 85) (S' := ([(0, .ref 206)], [.ref 206], rf_MM w m5)) (by decide +kernel) rfl trivial ?_
              refine rf_s_ldcw C 1000032 (idx := 616) (by decide +kernel) (by decide +kernel) ?_
              show rf_V 1 (rf_sh w) K 0 0 88 ([(0, .ref 206)], [.ref 1000032, .ref 206], rf_MM w m5)
              obtain ⟨y6, m6, hc6, hg⟩ := rf_b_some hg
              refine rf_callv C rf_fit0 j_X14_isWord (ci := 14) (As := [.ref 1000032]) (rest := []) mw_X14_isWord (c_X14_isWord hc6) (by decide) rfl (by decide) lk_14_541 rfl rfl (Nat.le_of_ble_eq_true rfl) (by decide +kernel) ?_
              show rf_V 1 (rf_sh w) K 0 0 91 ([(0, .ref 206)], [.int y6], rf_MM w m6)
              refine rf_if_eq C 8 99 (by decide +kernel) (fun hc => ?_) (fun hc => ?_)
              · replace hg := (if_pos hc).symm.trans hg
                refine rf_seg C [(.iconst (-1), 1)] (pc' := 100) (S' := ([(0, .ref 206)], [.int ((-1))], rf_MM w m6)) (by decide +kernel) rfl trivial ?_
                obtain rfl := Option.some.inj hg
                exact rf_iret C hE (by decide +kernel)
              · replace hg := (if_neg hc).symm.trans hg
                refine rf_seg C [(.iconst 6, 2)] (pc' := 96) (S' := ([(0, .ref 206)], [.int 6], rf_MM w m6)) (by decide +kernel) rfl trivial ?_
                refine rf_goto C 4 100 (by decide +kernel) ?_
                obtain rfl := Option.some.inj hg
                exact rf_iret C hE (by decide +kernel)
            · replace hg := (if_neg hc).symm.trans hg
              refine rf_seg C [(.iconst 5, 1)] (pc' := 81) (S' := ([(0, .ref 206)], [.int 5], rf_MM w m5)) (by decide +kernel) rfl trivial ?_
              refine rf_goto C 19 100 (by decide +kernel) ?_
              obtain rfl := Option.some.inj hg
              exact rf_iret C hE (by decide +kernel)
          · replace hg := (if_neg hc).symm.trans hg
            refine rf_seg C [(.iconst 4, 1)] (pc' := 67) (S' := ([(0, .ref 206)], [.int 4], rf_MM w m4)) (by decide +kernel) rfl trivial ?_
            refine rf_goto C 33 100 (by decide +kernel) ?_
            obtain rfl := Option.some.inj hg
            exact rf_iret C hE (by decide +kernel)
        · replace hg := (if_neg hc).symm.trans hg
          refine rf_seg C [(.iconst 3, 1)] (pc' := 53) (S' := ([(0, .ref 206)], [.int 3], rf_MM w m3)) (by decide +kernel) rfl trivial ?_
          refine rf_goto C 47 100 (by decide +kernel) ?_
          obtain rfl := Option.some.inj hg
          exact rf_iret C hE (by decide +kernel)
      · replace hg := (if_neg hc).symm.trans hg
        refine rf_seg C [(.iconst 2, 1)] (pc' := 39) (S' := ([(0, .ref 206)], [.int 2], rf_MM w m2)) (by decide +kernel) rfl trivial ?_
        refine rf_goto C 61 100 (by decide +kernel) ?_
        obtain rfl := Option.some.inj hg
        exact rf_iret C hE (by decide +kernel)
    · replace hg := (if_neg hc).symm.trans hg
      refine rf_seg C [(.iconst 1, 1)] (pc' := 25) (S' := ([(0, .ref 206)], [.int 1], rf_MM w m1)) (by decide +kernel) rfl trivial ?_
      refine rf_goto C 75 100 (by decide +kernel) ?_
      obtain rfl := Option.some.inj hg
      exact rf_iret C hE (by decide +kernel)
  · replace hg := (if_neg hc).symm.trans hg
    refine rf_seg C [(.iconst 0, 1)] (pc' := 11) (S' := ([(0, .ref 206)], [.int 0], rf_MM w m0)) (by decide +kernel) rfl trivial ?_
    refine rf_goto C 89 100 (by decide +kernel) ?_
    obtain rfl := Option.some.inj hg
    exact rf_iret C hE (by decide +kernel)
-- X14_chains
abbrev j_X14_chains : rf_J := (14, yX14_chains, cX14_chains, 17, none)
theorem mw_X14_chains : rf_mv j_X14_chains (rf_R 14) 6 := ⟨⟨rf_mem 80 (by decide +kernel), rf_mem 80 (by decide +kernel), rf_mem 0 (by decide +kernel), rf_mem 80 (by decide +kernel)⟩, by decide +kernel, by decide⟩
def g_X14_chains_381 (w : rf_w) (rc_X14_chains : rf_m → Int32 → Int32 → Int32 → Int32 → Int32 → Int32 → Option (rf_m)) (rec113 : Int32 → Int32 → Int32 → Int32 → Int32 → Int32 → Int32 → rf_m → Option (rf_m)) (a1 : Int32) (a2 : Int32) (a3 : Int32) (a4 : Int32) (a5 : Int32) (a6 : Int32) (a7 : Int32) (m : rf_m) : Option (rf_m) := rec113 a1 a2 a3 a4 a5 a6 (a7 + 1) m
def g_X14_chains_375 (w : rf_w) (rc_X14_chains : rf_m → Int32 → Int32 → Int32 → Int32 → Int32 → Int32 → Option (rf_m)) (rec113 : Int32 → Int32 → Int32 → Int32 → Int32 → Int32 → Int32 → rf_m → Option (rf_m)) (rec191 : Int32 → Int32 → Int32 → Int32 → Int32 → Int32 → Int32 → Int32 → Int32 → Int32 → Int32 → rf_m → Option (rf_m)) (a1 : Int32) (a2 : Int32) (a3 : Int32) (a4 : Int32) (a5 : Int32) (a6 : Int32) (a7 : Int32) (a8 : Int32) (a9 : Int32) (a10 : Int32) (a11 : Int32) (m : rf_m) : Option (rf_m) := rec191 a1 a2 a3 a4 a5 a6 a7 a8 a9 a10 (a11 + 1) m
def g_X14_chains_191_b (w : rf_w) (rc_X14_chains : rf_m → Int32 → Int32 → Int32 → Int32 → Int32 → Int32 → Option (rf_m)) (rec113 : Int32 → Int32 → Int32 → Int32 → Int32 → Int32 → Int32 → rf_m → Option (rf_m)) (rec191 : Int32 → Int32 → Int32 → Int32 → Int32 → Int32 → Int32 → Int32 → Int32 → Int32 → Int32 → rf_m → Option (rf_m)) (a1 : Int32) (a2 : Int32) (a3 : Int32) (a4 : Int32) (a5 : Int32) (a6 : Int32) (a7 : Int32) (a8 : Int32) (a9 : Int32) (a10 : Int32) (a11 : Int32) (m : rf_m) : Option (rf_m) := (if 3 ≤ a11 then g_X14_chains_381 w rc_X14_chains rec113 a1 a2 a3 a4 a5 a6 a7 m else (if a11 = a9 then g_X14_chains_375 w rc_X14_chains rec113 rec191 a1 a2 a3 a4 a5 a6 a7 a8 a9 a10 a11 m else rf_g (rf_in ((3 * a8) + a11) 90) (rf_vi (m.1 243 (Int32.toNatClampNeg ((3 * a8) + a11))) fun x1 => rf_g (rf_in x1 80) (rf_g (rf_in a10 80) (rf_g (rf_nzl (Int32.toInt64 (m.1 269 (Int32.toNatClampNeg a10)))) (rf_vl (((Int32.toInt64 a5) * (Int32.toInt64 (m.1 268 (Int32.toNatClampNeg x1)))) / (Int32.toInt64 (m.1 269 (Int32.toNatClampNeg a10)))) fun x5 => rf_g (rf_in x1 80) (rf_g (rf_in a10 80) (rf_g (rf_in a10 80) (rf_g (rf_nzl (Int32.toInt64 (m.1 268 (Int32.toNatClampNeg a10)))) (rf_vl (((((Int32.toInt64 a6) * (Int32.toInt64 (m.1 269 (Int32.toNatClampNeg x1)))) + (Int32.toInt64 (m.1 268 (Int32.toNatClampNeg a10)))) - 1) / (Int32.toInt64 (m.1 268 (Int32.toNatClampNeg a10)))) fun x10 => (if (lg_cmp x10 1000000000) ≤ 0 then rf_g (rf_in a1 6) (rf_g (rf_in x1 80) (rf_g (rf_in x1 80) (rf_b (g_min w (rf_i m 272 (Int32.toNatClampNeg a1) a8) ((rf_i m 272 (Int32.toNatClampNeg a1) a8).1 218 (Int32.toNatClampNeg x1)) ((rf_i m 272 (Int32.toNatClampNeg a1) a8).1 219 (Int32.toNatClampNeg x1))) fun y14 m14 => rf_g (rf_in a1 6) (rf_g (rf_in x1 80) (rf_g (rf_in x1 80) (rf_b (g_max w (rf_i m14 273 (Int32.toNatClampNeg a1) y14) ((rf_i m14 273 (Int32.toNatClampNeg a1) y14).1 218 (Int32.toNatClampNeg x1)) ((rf_i m14 273 (Int32.toNatClampNeg a1) y14).1 219 (Int32.toNatClampNeg x1))) fun y18 m18 => rf_g (rf_in a1 6) (rf_g (rf_in a1 6) (rf_g (rf_in a1 6) (rf_bv (rc_X14_chains (rf_i m18 274 (Int32.toNatClampNeg a1) y18) (a1 + 1) (a2 ||| ((1 : Int32) <<< (a7 &&& 31))) ((rf_i m18 274 (Int32.toNatClampNeg a1) y18).1 273 (Int32.toNatClampNeg a1)) ((rf_i m18 274 (Int32.toNatClampNeg a1) y18).1 274 (Int32.toNatClampNeg a1)) (Int64.toInt32 x5) (Int64.toInt32 x10)) fun m22 => g_X14_chains_375 w rc_X14_chains rec113 rec191 a1 a2 a3 a4 a5 a6 a7 a8 a9 a10 a11 m22))))))))) else g_X14_chains_375 w rc_X14_chains rec113 rec191 a1 a2 a3 a4 a5 a6 a7 a8 a9 a10 a11 m)))))))))))
def g_X14_chains_191 (w : rf_w) (rc_X14_chains : rf_m → Int32 → Int32 → Int32 → Int32 → Int32 → Int32 → Option (rf_m)) (rec113 : Int32 → Int32 → Int32 → Int32 → Int32 → Int32 → Int32 → rf_m → Option (rf_m)) : Nat → Int32 → Int32 → Int32 → Int32 → Int32 → Int32 → Int32 → Int32 → Int32 → Int32 → Int32 → rf_m → Option (rf_m)
  | 0, _, _, _, _, _, _, _, _, _, _, _, _ => none
  | n + 1, a1, a2, a3, a4, a5, a6, a7, a8, a9, a10, a11, m => g_X14_chains_191_b w rc_X14_chains rec113 (g_X14_chains_191 w rc_X14_chains rec113 n) a1 a2 a3 a4 a5 a6 a7 a8 a9 a10 a11 m
def g_X14_chains_163 (w : rf_w) (rc_X14_chains : rf_m → Int32 → Int32 → Int32 → Int32 → Int32 → Int32 → Option (rf_m)) (rec113 : Int32 → Int32 → Int32 → Int32 → Int32 → Int32 → Int32 → rf_m → Option (rf_m)) (a1 : Int32) (a2 : Int32) (a3 : Int32) (a4 : Int32) (a5 : Int32) (a6 : Int32) (a7 : Int32) (a8 : Int32) (s0 : Int32) (m : rf_m) : Option (rf_m) := (if s0 = ((-1)) then g_X14_chains_381 w rc_X14_chains rec113 a1 a2 a3 a4 a5 a6 a7 m else rf_g (rf_in ((3 * a8) + s0) 90) (rf_vi (m.1 243 (Int32.toNatClampNeg ((3 * a8) + s0))) fun x1 => g_X14_chains_191 w rc_X14_chains rec113 rf_fuel a1 a2 a3 a4 a5 a6 a7 a8 s0 x1 0 m))
def g_X14_chains_150 (w : rf_w) (rc_X14_chains : rf_m → Int32 → Int32 → Int32 → Int32 → Int32 → Int32 → Option (rf_m)) (rec113 : Int32 → Int32 → Int32 → Int32 → Int32 → Int32 → Int32 → rf_m → Option (rf_m)) (a1 : Int32) (a2 : Int32) (a3 : Int32) (a4 : Int32) (a5 : Int32) (a6 : Int32) (a7 : Int32) (a8 : Int32) (m : rf_m) : Option (rf_m) := g_X14_chains_163 w rc_X14_chains rec113 a1 a2 a3 a4 a5 a6 a7 a8 ((-1)) m
def g_X14_chains_113_b (w : rf_w) (rc_X14_chains : rf_m → Int32 → Int32 → Int32 → Int32 → Int32 → Int32 → Option (rf_m)) (rec113 : Int32 → Int32 → Int32 → Int32 → Int32 → Int32 → Int32 → rf_m → Option (rf_m)) (a1 : Int32) (a2 : Int32) (a3 : Int32) (a4 : Int32) (a5 : Int32) (a6 : Int32) (a7 : Int32) (m : rf_m) : Option (rf_m) := (if (m.1 206 104) ≤ a7 then some m else rf_g (rf_in a7 30) (rf_vi (m.1 271 (Int32.toNatClampNeg a7)) fun x1 => (if ((a2 >>> (a7 &&& 31)) &&& 1) = 1 then g_X14_chains_150 w rc_X14_chains rec113 a1 a2 a3 a4 a5 a6 a7 x1 m else rf_b (g_X14_carries w m x1) fun y2 m2 => (if y2 = 0 then g_X14_chains_150 w rc_X14_chains rec113 a1 a2 a3 a4 a5 a6 a7 x1 m2 else rf_b (g_X14_opposite w m2 x1 a3 a4) fun y3 m3 => g_X14_chains_163 w rc_X14_chains rec113 a1 a2 a3 a4 a5 a6 a7 x1 y3 m3))))
def g_X14_chains_113 (w : rf_w) (rc_X14_chains : rf_m → Int32 → Int32 → Int32 → Int32 → Int32 → Int32 → Option (rf_m)) : Nat → Int32 → Int32 → Int32 → Int32 → Int32 → Int32 → Int32 → rf_m → Option (rf_m)
  | 0, _, _, _, _, _, _, _, _ => none
  | n + 1, a1, a2, a3, a4, a5, a6, a7, m => g_X14_chains_113_b w rc_X14_chains (g_X14_chains_113 w rc_X14_chains n) a1 a2 a3 a4 a5 a6 a7 m
def g_X14_chains_103 (w : rf_w) (rc_X14_chains : rf_m → Int32 → Int32 → Int32 → Int32 → Int32 → Int32 → Option (rf_m)) (a1 : Int32) (a2 : Int32) (a3 : Int32) (a4 : Int32) (a5 : Int32) (a6 : Int32) (m : rf_m) : Option (rf_m) := (if a1 = 6 then some m else g_X14_chains_113 w rc_X14_chains rf_fuel a1 a2 a3 a4 a5 a6 0 m)
def g_X14_chains_49_b (w : rf_w) (rc_X14_chains : rf_m → Int32 → Int32 → Int32 → Int32 → Int32 → Int32 → Option (rf_m)) (rec49 : Int32 → Int32 → Int32 → Int32 → Int32 → Int32 → Int32 → rf_m → Option (rf_m)) (a1 : Int32) (a2 : Int32) (a3 : Int32) (a4 : Int32) (a5 : Int32) (a6 : Int32) (a7 : Int32) (m : rf_m) : Option (rf_m) := (if a1 ≤ a7 then g_X14_chains_103 w rc_X14_chains a1 a2 a3 a4 a5 a6 m else rf_g (rf_in a7 6) (rf_g (rf_in a7 6) (rf_g (rf_in a7 6) (rf_g (rf_in a7 6) (rf_g (rf_in a7 6) (rf_g (rf_in a7 6) (rec49 a1 a2 a3 a4 a5 a6 (a7 + 1) (rf_i (rf_i (rf_i m 275 (Int32.toNatClampNeg a7) (m.1 272 (Int32.toNatClampNeg a7))) 276 (Int32.toNatClampNeg a7) ((rf_i m 275 (Int32.toNatClampNeg a7) (m.1 272 (Int32.toNatClampNeg a7))).1 273 (Int32.toNatClampNeg a7))) 277 (Int32.toNatClampNeg a7) ((rf_i (rf_i m 275 (Int32.toNatClampNeg a7) (m.1 272 (Int32.toNatClampNeg a7))) 276 (Int32.toNatClampNeg a7) ((rf_i m 275 (Int32.toNatClampNeg a7) (m.1 272 (Int32.toNatClampNeg a7))).1 273 (Int32.toNatClampNeg a7))).1 274 (Int32.toNatClampNeg a7))))))))))
def g_X14_chains_49 (w : rf_w) (rc_X14_chains : rf_m → Int32 → Int32 → Int32 → Int32 → Int32 → Int32 → Option (rf_m)) : Nat → Int32 → Int32 → Int32 → Int32 → Int32 → Int32 → Int32 → rf_m → Option (rf_m)
  | 0, _, _, _, _, _, _, _, _ => none
  | n + 1, a1, a2, a3, a4, a5, a6, a7, m => g_X14_chains_49_b w rc_X14_chains (g_X14_chains_49 w rc_X14_chains n) a1 a2 a3 a4 a5 a6 a7 m
def g_X14_chains_f (w : rf_w) (rc_X14_chains : rf_m → Int32 → Int32 → Int32 → Int32 → Int32 → Int32 → Option (rf_m)) (m : rf_m) (a1 : Int32) (a2 : Int32) (a3 : Int32) (a4 : Int32) (a5 : Int32) (a6 : Int32) : Option (rf_m) := (if a3 = (m.1 206 108) then (if a4 = (m.1 206 109) then rf_b (g_X14_isBetter w m a1 a5 a6) fun y0 m0 => (if y0 = 0 then g_X14_chains_103 w rc_X14_chains a1 a2 a3 a4 a5 a6 m0 else g_X14_chains_49 w rc_X14_chains rf_fuel a1 a2 a3 a4 a5 a6 0 (rf_i (rf_i (rf_i m0 206 105 a1) 206 106 a5) 206 107 a6)) else g_X14_chains_103 w rc_X14_chains a1 a2 a3 a4 a5 a6 m) else g_X14_chains_103 w rc_X14_chains a1 a2 a3 a4 a5 a6 m)
def g_X14_chains (w : rf_w) : Nat → rf_m → Int32 → Int32 → Int32 → Int32 → Int32 → Int32 → Option (rf_m)
  | 0, _, _, _, _, _, _, _ => none
  | n + 1, m, a1, a2, a3, a4, a5, a6 => g_X14_chains_f w (g_X14_chains w n) m a1 a2 a3 a4 a5 a6
theorem s_X14_chains_381 {w : rf_w} {K : rf_K} {e : Nat} {rc_X14_chains : rf_m → Int32 → Int32 → Int32 → Int32 → Int32 → Int32 → Option (rf_m)} {r : rf_m} (C : rf_Ctx 14 cX14_chains 17 (e + 3) (rf_sh w) K) (hE : rf_End none K (rf_sh w) 0 0 none (rf_MM w r)) (hrc_X14_chains : ∀ (m : rf_m) (a1 : Int32) (a2 : Int32) (a3 : Int32) (a4 : Int32) (a5 : Int32) (a6 : Int32) (r : rf_m), rc_X14_chains m a1 a2 a3 a4 a5 a6 = some r → rf_Con j_X14_chains e (rf_sh w) [.ref 206, .int a1, .int a2, .int a3, .int a4, .int a5, .int a6] (rf_MM w m) none (rf_MM w r)) {rec113 : Int32 → Int32 → Int32 → Int32 → Int32 → Int32 → Int32 → rf_m → Option (rf_m)} (hr113 : ∀ (a1 : Int32) (a2 : Int32) (a3 : Int32) (a4 : Int32) (a5 : Int32) (a6 : Int32) (a7 : Int32) (m : rf_m), rec113 a1 a2 a3 a4 a5 a6 a7 m = some r → rf_V 17 (rf_sh w) K 0 0 113 ([(0, .ref 206), (1, .int a1), (2, .int a2), (3, .int a3), (4, .int a4), (5, .int a5), (6, .int a6), (7, .int a7)], [], rf_MM w m)) (a1 : Int32) (a2 : Int32) (a3 : Int32) (a4 : Int32) (a5 : Int32) (a6 : Int32) (a7 : Int32) (m : rf_m) (hg : g_X14_chains_381 w rc_X14_chains rec113 a1 a2 a3 a4 a5 a6 a7 m = some r) : rf_V 17 (rf_sh w) K 0 0 381 ([(0, .ref 206), (1, .int a1), (2, .int a2), (3, .int a3), (4, .int a4), (5, .int a5), (6, .int a6), (7, .int a7)], [], rf_MM w m) := by
  unfold g_X14_chains_381 at hg
  refine rf_seg C [(.iinc 7 1, 3)] (pc' := 384) (S' := ([(7, .int (a7 + 1)), (0, .ref 206), (1, .int a1), (2, .int a2), (3, .int a3), (4, .int a4), (5, .int a5), (6, .int a6)], [], rf_MM w m)) (by decide +kernel) rfl trivial ?_
  refine rf_goto C (-271) 113 (by decide +kernel) ?_
  refine rf_few [1, 2, 3, 4, 5, 6, 7, 0] rfl ?_
  exact hr113 a1 a2 a3 a4 a5 a6 (a7 + 1) m hg
theorem s_X14_chains_375 {w : rf_w} {K : rf_K} {e : Nat} {rc_X14_chains : rf_m → Int32 → Int32 → Int32 → Int32 → Int32 → Int32 → Option (rf_m)} {r : rf_m} (C : rf_Ctx 14 cX14_chains 17 (e + 3) (rf_sh w) K) (hE : rf_End none K (rf_sh w) 0 0 none (rf_MM w r)) (hrc_X14_chains : ∀ (m : rf_m) (a1 : Int32) (a2 : Int32) (a3 : Int32) (a4 : Int32) (a5 : Int32) (a6 : Int32) (r : rf_m), rc_X14_chains m a1 a2 a3 a4 a5 a6 = some r → rf_Con j_X14_chains e (rf_sh w) [.ref 206, .int a1, .int a2, .int a3, .int a4, .int a5, .int a6] (rf_MM w m) none (rf_MM w r)) {rec113 : Int32 → Int32 → Int32 → Int32 → Int32 → Int32 → Int32 → rf_m → Option (rf_m)} {rec191 : Int32 → Int32 → Int32 → Int32 → Int32 → Int32 → Int32 → Int32 → Int32 → Int32 → Int32 → rf_m → Option (rf_m)} (hr113 : ∀ (a1 : Int32) (a2 : Int32) (a3 : Int32) (a4 : Int32) (a5 : Int32) (a6 : Int32) (a7 : Int32) (m : rf_m), rec113 a1 a2 a3 a4 a5 a6 a7 m = some r → rf_V 17 (rf_sh w) K 0 0 113 ([(0, .ref 206), (1, .int a1), (2, .int a2), (3, .int a3), (4, .int a4), (5, .int a5), (6, .int a6), (7, .int a7)], [], rf_MM w m)) (hr191 : ∀ (a1 : Int32) (a2 : Int32) (a3 : Int32) (a4 : Int32) (a5 : Int32) (a6 : Int32) (a7 : Int32) (a8 : Int32) (a9 : Int32) (a10 : Int32) (a11 : Int32) (m : rf_m), rec191 a1 a2 a3 a4 a5 a6 a7 a8 a9 a10 a11 m = some r → rf_V 17 (rf_sh w) K 0 0 191 ([(0, .ref 206), (1, .int a1), (2, .int a2), (3, .int a3), (4, .int a4), (5, .int a5), (6, .int a6), (7, .int a7), (8, .int a8), (9, .int a9), (10, .int a10), (11, .int a11)], [], rf_MM w m)) (a1 : Int32) (a2 : Int32) (a3 : Int32) (a4 : Int32) (a5 : Int32) (a6 : Int32) (a7 : Int32) (a8 : Int32) (a9 : Int32) (a10 : Int32) (a11 : Int32) (m : rf_m) (hg : g_X14_chains_375 w rc_X14_chains rec113 rec191 a1 a2 a3 a4 a5 a6 a7 a8 a9 a10 a11 m = some r) : rf_V 17 (rf_sh w) K 0 0 375 ([(0, .ref 206), (1, .int a1), (2, .int a2), (3, .int a3), (4, .int a4), (5, .int a5), (6, .int a6), (7, .int a7), (8, .int a8), (9, .int a9), (10, .int a10), (11, .int a11)], [], rf_MM w m) := by
  unfold g_X14_chains_375 at hg
  refine rf_seg C [(.iinc 11 1, 3)] (pc' := 378) (S' := ([(11, .int (a11 + 1)), (0, .ref 206), (1, .int a1), (2, .int a2), (3, .int a3), (4, .int a4), (5, .int a5), (6, .int a6), (7, .int a7), (8, .int a8), (9, .int a9), (10, .int a10)], [], rf_MM w m)) (by decide +kernel) rfl trivial ?_
  refine rf_goto C (-187) 191 (by decide +kernel) ?_
  refine rf_few [1, 2, 3, 4, 5, 6, 7, 8, 9, 10, 11, 0] rfl ?_
  exact hr191 a1 a2 a3 a4 a5 a6 a7 a8 a9 a10 (a11 + 1) m hg
theorem s_X14_chains_191_b {w : rf_w} {K : rf_K} {e : Nat} {rc_X14_chains : rf_m → Int32 → Int32 → Int32 → Int32 → Int32 → Int32 → Option (rf_m)} {r : rf_m} (C : rf_Ctx 14 cX14_chains 17 (e + 3) (rf_sh w) K) (hE : rf_End none K (rf_sh w) 0 0 none (rf_MM w r)) (hrc_X14_chains : ∀ (m : rf_m) (a1 : Int32) (a2 : Int32) (a3 : Int32) (a4 : Int32) (a5 : Int32) (a6 : Int32) (r : rf_m), rc_X14_chains m a1 a2 a3 a4 a5 a6 = some r → rf_Con j_X14_chains e (rf_sh w) [.ref 206, .int a1, .int a2, .int a3, .int a4, .int a5, .int a6] (rf_MM w m) none (rf_MM w r)) {rec113 : Int32 → Int32 → Int32 → Int32 → Int32 → Int32 → Int32 → rf_m → Option (rf_m)} {rec191 : Int32 → Int32 → Int32 → Int32 → Int32 → Int32 → Int32 → Int32 → Int32 → Int32 → Int32 → rf_m → Option (rf_m)} (hr113 : ∀ (a1 : Int32) (a2 : Int32) (a3 : Int32) (a4 : Int32) (a5 : Int32) (a6 : Int32) (a7 : Int32) (m : rf_m), rec113 a1 a2 a3 a4 a5 a6 a7 m = some r → rf_V 17 (rf_sh w) K 0 0 113 ([(0, .ref 206), (1, .int a1), (2, .int a2), (3, .int a3), (4, .int a4), (5, .int a5), (6, .int a6), (7, .int a7)], [], rf_MM w m)) (hr191 : ∀ (a1 : Int32) (a2 : Int32) (a3 : Int32) (a4 : Int32) (a5 : Int32) (a6 : Int32) (a7 : Int32) (a8 : Int32) (a9 : Int32) (a10 : Int32) (a11 : Int32) (m : rf_m), rec191 a1 a2 a3 a4 a5 a6 a7 a8 a9 a10 a11 m = some r → rf_V 17 (rf_sh w) K 0 0 191 ([(0, .ref 206), (1, .int a1), (2, .int a2), (3, .int a3), (4, .int a4), (5, .int a5), (6, .int a6), (7, .int a7), (8, .int a8), (9, .int a9), (10, .int a10), (11, .int a11)], [], rf_MM w m)) (a1 : Int32) (a2 : Int32) (a3 : Int32) (a4 : Int32) (a5 : Int32) (a6 : Int32) (a7 : Int32) (a8 : Int32) (a9 : Int32) (a10 : Int32) (a11 : Int32) (m : rf_m) (hg : g_X14_chains_191_b w rc_X14_chains rec113 rec191 a1 a2 a3 a4 a5 a6 a7 a8 a9 a10 a11 m = some r) : rf_V 17 (rf_sh w) K 0 0 191 ([(0, .ref 206), (1, .int a1), (2, .int a2), (3, .int a3), (4, .int a4), (5, .int a5), (6, .int a6), (7, .int a7), (8, .int a8), (9, .int a9), (10, .int a10), (11, .int a11)], [], rf_MM w m) := by
  unfold g_X14_chains_191_b at hg
  refine rf_seg C [(.iload 11, 2), (.iconst 3, 1)] (pc' := 194) (S' := ([(0, .ref 206), (1, .int a1), (2, .int a2), (3, .int a3), (4, .int a4), (5, .int a5), (6, .int a6), (7, .int a7), (8, .int a8), (9, .int a9), (10, .int a10), (11, .int a11)], [.int 3, .int a11], rf_MM w m)) (by decide +kernel) rfl trivial ?_
  refine rf_icmp_ge C 187 381 (by decide +kernel) (fun hc => ?_) (fun hc => ?_)
  · replace hg := (if_pos hc).symm.trans hg
    refine rf_few [0, 1, 2, 3, 4, 5, 6, 7] rfl ?_
    exact s_X14_chains_381 C hE hrc_X14_chains hr113 a1 a2 a3 a4 a5 a6 a7 m hg
  · replace hg := (if_neg hc).symm.trans hg
    refine rf_seg C [(.iload 11, 2), (.iload 9, 2)] (pc' := 201) (S' := ([(0, .ref 206), (1, .int a1), (2, .int a2), (3, .int a3), (4, .int a4), (5, .int a5), (6, .int a6), (7, .int a7), (8, .int a8), (9, .int a9), (10, .int a10), (11, .int a11)], [.int a9, .int a11], rf_MM w m)) (by decide +kernel) rfl trivial ?_
    refine rf_icmp_ne C 6 207 (by decide +kernel) (fun hc => ?_) (fun hc => ?_)
    · replace hg := (if_neg hc).symm.trans hg
      obtain ⟨q0, hg⟩ := rf_g_some hg
      refine rf_seg C [(.aload 0, 1), (.invokeinterface 14 66, 3), (.iconst 3, 1), (.iload 8, 2), (.imul, 1), (.iload 11, 2), (.iadd, 1), (.iaload, 1)] (pc' := 219) (S' := ([(0, .ref 206), (1, .int a1), (2, .int a2), (3, .int a3), (4, .int a4), (5, .int a5), (6, .int a6), (7, .int a7), (8, .int a8), (9, .int a9), (10, .int a10), (11, .int a11)], [.int (m.1 243 (Int32.toNatClampNeg ((3 * a8) + a11)))], rf_MM w m)) (by decide +kernel) rfl (rf_in_of q0) ?_
      obtain ⟨x1, hx1, hg⟩ := rf_vi_some hg
      refine rf_vi_top hx1 ?_
      obtain ⟨q2, hg⟩ := rf_g_some hg
      obtain ⟨q3, hg⟩ := rf_g_some hg
      obtain ⟨q4, hg⟩ := rf_g_some hg
      refine rf_seg C [(.istore 12, 2), (.iload 5, 2), (.i2l, 1), (.aload 0, 1), (.invokeinterface 14 93, 3), (.iload 12, 2), (.iaload, 1), (.i2l, 1), (.lmul, 1), (.aload 0, 1), (.invokeinterface 14 94, 3), (.iload 10, 2), (.iaload, 1), (.i2l, 1), (.ldiv, 1)] (pc' := 242) (S' := ([(12, .int x1), (0, .ref 206), (1, .int a1), (2, .int a2), (3, .int a3), (4, .int a4), (5, .int a5), (6, .int a6), (7, .int a7), (8, .int a8), (9, .int a9), (10, .int a10), (11, .int a11)], [.long (((Int32.toInt64 a5) * (Int32.toInt64 (m.1 268 (Int32.toNatClampNeg x1)))) / (Int32.toInt64 (m.1 269 (Int32.toNatClampNeg a10))))], rf_MM w m)) (by decide +kernel) rfl (by exact ⟨(rf_in_of q2), (rf_in_of q3), (rf_nzl_of q4)⟩) ?_
      obtain ⟨x5, hx5, hg⟩ := rf_vl_some hg
      refine rf_vl_top hx5 ?_
      obtain ⟨q6, hg⟩ := rf_g_some hg
      obtain ⟨q7, hg⟩ := rf_g_some hg
      obtain ⟨q8, hg⟩ := rf_g_some hg
      obtain ⟨q9, hg⟩ := rf_g_some hg
      refine rf_seg C [(.lstore 13, 2), (.iload 6, 2), (.i2l, 1), (.aload 0, 1), (.invokeinterface 14 94, 3), (.iload 12, 2), (.iaload, 1), (.i2l, 1), (.lmul, 1), (.aload 0, 1), (.invokeinterface 14 93, 3), (.iload 10, 2), (.iaload, 1), (.i2l, 1), (.ladd, 1), (.goto_w 1, 1), (.lsub, 1), (.aload 0, 1), (.invokeinterface 14 93, 3), (.iload 10, 2), (.iaload, 1), (.i2l, 1), (.ldiv, 1)] (pc' := 276) (S' := ([(13, .long x5), (12, .int x1), (0, .ref 206), (1, .int a1), (2, .int a2), (3, .int a3), (4, .int a4), (5, .int a5), (6, .int a6), (7, .int a7), (8, .int a8), (9, .int a9), (10, .int a10), (11, .int a11)], [.long (((((Int32.toInt64 a6) * (Int32.toInt64 (m.1 269 (Int32.toNatClampNeg x1)))) + (Int32.toInt64 (m.1 268 (Int32.toNatClampNeg a10)))) - 1) / (Int32.toInt64 (m.1 268 (Int32.toNatClampNeg a10))))], rf_MM w m)) (by decide +kernel) rfl (by exact ⟨(rf_in_of q6), (rf_in_of q7), (rf_in_of q8), (rf_nzl_of q9)⟩) ?_
      obtain ⟨x10, hx10, hg⟩ := rf_vl_some hg
      refine rf_vl_top hx10 ?_
      refine rf_seg C [(.lstore 15, 2), (.lload 15, 2), (.goto_w 1000000000, 3), (.lcmp, 1)] (pc' := 284) (S' := ([(15, .long x10), (13, .long x5), (12, .int x1), (0, .ref 206), (1, .int a1), (2, .int a2), (3, .int a3), (4, .int a4), (5, .int a5), (6, .int a6), (7, .int a7), (8, .int a8), (9, .int a9), (10, .int a10), (11, .int a11)], [.int (lg_cmp x10 1000000000)], rf_MM w m)) (by decide +kernel) rfl trivial ?_
      refine rf_if_le C 6 290 (by decide +kernel) (fun hc => ?_) (fun hc => ?_)
      · replace hg := (if_pos hc).symm.trans hg
        obtain ⟨q11, hg⟩ := rf_g_some hg
        obtain ⟨q12, hg⟩ := rf_g_some hg
        obtain ⟨q13, hg⟩ := rf_g_some hg
        refine rf_seg C [(.aload 0, 1), (.invokeinterface 14 97, 3), (.iload 1, 1), (.iload 8, 2), (.iastore, 1), (.aload 0, 1), (.invokeinterface 14 98, 3), (.iload 1, 1), (.aload 0, 1), (.invokeinterface 14 22, 3), (.iload 12, 2), (.iaload, 1), (.aload 0, 1), (.invokeinterface 14 23, 3), (.iload 12, 2), (.iaload, 1)] (pc' := 317) (S' := ([(15, .long x10), (13, .long x5), (12, .int x1), (0, .ref 206), (1, .int a1), (2, .int a2), (3, .int a3), (4, .int a4), (5, .int a5), (6, .int a6), (7, .int a7), (8, .int a8), (9, .int a9), (10, .int a10), (11, .int a11)], [.int ((rf_i m 272 (Int32.toNatClampNeg a1) a8).1 219 (Int32.toNatClampNeg x1)), .int ((rf_i m 272 (Int32.toNatClampNeg a1) a8).1 218 (Int32.toNatClampNeg x1)), .int a1, .ref 273], rf_MM w (rf_i m 272 (Int32.toNatClampNeg a1) a8))) (by decide +kernel) rfl (by exact ⟨(rf_in_of q11), (rf_in_of q12), (rf_in_of q13)⟩) ?_
        obtain ⟨y14, m14, hc14, hg⟩ := rf_b_some hg
        refine rf_calls C rf_fit0 j_min (As := [.int ((rf_i m 272 (Int32.toNatClampNeg a1) a8).1 218 (Int32.toNatClampNeg x1)), .int ((rf_i m 272 (Int32.toNatClampNeg a1) a8).1 219 (Int32.toNatClampNeg x1))]) (rest := [.int a1, .ref 273]) mw_min (c_min hc14) (by omega) lk_14_443 rfl rfl (Nat.le_of_ble_eq_true rfl) (by decide +kernel) ?_
        show rf_V 17 (rf_sh w) K 0 0 320 ([(15, .long x10), (13, .long x5), (12, .int x1), (0, .ref 206), (1, .int a1), (2, .int a2), (3, .int a3), (4, .int a4), (5, .int a5), (6, .int a6), (7, .int a7), (8, .int a8), (9, .int a9), (10, .int a10), (11, .int a11)], [.int y14, .int a1, .ref 273], rf_MM w m14)
        obtain ⟨q15, hg⟩ := rf_g_some hg
        obtain ⟨q16, hg⟩ := rf_g_some hg
        obtain ⟨q17, hg⟩ := rf_g_some hg
        refine rf_seg C [(.iastore, 1), (.aload 0, 1), (.invokeinterface 14 99, 3), (.iload 1, 1), (.aload 0, 1), (.invokeinterface 14 22, 3), (.iload 12, 2), (.iaload, 1), (.aload 0, 1), (.invokeinterface 14 23, 3), (.iload 12, 2), (.iaload, 1)] (pc' := 340) (S' := ([(15, .long x10), (13, .long x5), (12, .int x1), (0, .ref 206), (1, .int a1), (2, .int a2), (3, .int a3), (4, .int a4), (5, .int a5), (6, .int a6), (7, .int a7), (8, .int a8), (9, .int a9), (10, .int a10), (11, .int a11)], [.int ((rf_i m14 273 (Int32.toNatClampNeg a1) y14).1 219 (Int32.toNatClampNeg x1)), .int ((rf_i m14 273 (Int32.toNatClampNeg a1) y14).1 218 (Int32.toNatClampNeg x1)), .int a1, .ref 274], rf_MM w (rf_i m14 273 (Int32.toNatClampNeg a1) y14))) (by decide +kernel) rfl (by exact ⟨(rf_in_of q15), (rf_in_of q16), (rf_in_of q17)⟩) ?_
        obtain ⟨y18, m18, hc18, hg⟩ := rf_b_some hg
        refine rf_calls C rf_fit0 j_max (As := [.int ((rf_i m14 273 (Int32.toNatClampNeg a1) y14).1 218 (Int32.toNatClampNeg x1)), .int ((rf_i m14 273 (Int32.toNatClampNeg a1) y14).1 219 (Int32.toNatClampNeg x1))]) (rest := [.int a1, .ref 274]) mw_max (c_max hc18) (by omega) lk_14_375 rfl rfl (Nat.le_of_ble_eq_true rfl) (by decide +kernel) ?_
        show rf_V 17 (rf_sh w) K 0 0 343 ([(15, .long x10), (13, .long x5), (12, .int x1), (0, .ref 206), (1, .int a1), (2, .int a2), (3, .int a3), (4, .int a4), (5, .int a5), (6, .int a6), (7, .int a7), (8, .int a8), (9, .int a9), (10, .int a10), (11, .int a11)], [.int y18, .int a1, .ref 274], rf_MM w m18)
        obtain ⟨q19, hg⟩ := rf_g_some hg
        obtain ⟨q20, hg⟩ := rf_g_some hg
        obtain ⟨q21, hg⟩ := rf_g_some hg
        refine rf_seg C [(.iastore, 1), (.aload 0, 1), (.iload 1, 1), (.iconst 1, 1), (.iadd, 1), (.iload 2, 1), (.iconst 1, 1), (.iload 7, 2), (.ishl, 1), (.ior, 1), (.aload 0, 1), (.invokeinterface 14 98, 3), (.iload 1, 1), (.iaload, 1), (.aload 0, 1), (.invokeinterface 14 99, 3), (.iload 1, 1), (.iaload, 1), (.lload 13, 2), (.l2i, 1), (.lload 15, 2), (.l2i, 1)] (pc' := 372) (S' := ([(15, .long x10), (13, .long x5), (12, .int x1), (0, .ref 206), (1, .int a1), (2, .int a2), (3, .int a3), (4, .int a4), (5, .int a5), (6, .int a6), (7, .int a7), (8, .int a8), (9, .int a9), (10, .int a10), (11, .int a11)], [.int (Int64.toInt32 x10), .int (Int64.toInt32 x5), .int ((rf_i m18 274 (Int32.toNatClampNeg a1) y18).1 274 (Int32.toNatClampNeg a1)), .int ((rf_i m18 274 (Int32.toNatClampNeg a1) y18).1 273 (Int32.toNatClampNeg a1)), .int (a2 ||| ((1 : Int32) <<< (a7 &&& 31))), .int (a1 + 1), .ref 206], rf_MM w (rf_i m18 274 (Int32.toNatClampNeg a1) y18))) (by decide +kernel) rfl (by exact ⟨(rf_in_of q19), (rf_in_of q20), (rf_in_of q21)⟩) ?_
        obtain ⟨m22, hc22, hg⟩ := rf_bv_some hg
        refine rf_callv C rf_fit0 j_X14_chains (ci := 14) (As := [.int (a1 + 1), .int (a2 ||| ((1 : Int32) <<< (a7 &&& 31))), .int ((rf_i m18 274 (Int32.toNatClampNeg a1) y18).1 273 (Int32.toNatClampNeg a1)), .int ((rf_i m18 274 (Int32.toNatClampNeg a1) y18).1 274 (Int32.toNatClampNeg a1)), .int (Int64.toInt32 x5), .int (Int64.toInt32 x10)]) (rest := []) mw_X14_chains (hrc_X14_chains _ _ _ _ _ _ _ _ hc22) (by omega) rfl (by decide) lk_14_838 rfl rfl (Nat.le_of_ble_eq_true rfl) (by decide +kernel) ?_
        show rf_V 17 (rf_sh w) K 0 0 375 ([(15, .long x10), (13, .long x5), (12, .int x1), (0, .ref 206), (1, .int a1), (2, .int a2), (3, .int a3), (4, .int a4), (5, .int a5), (6, .int a6), (7, .int a7), (8, .int a8), (9, .int a9), (10, .int a10), (11, .int a11)], [], rf_MM w m22)
        refine rf_few [3, 4, 5, 6, 7, 8, 9, 10, 11, 12, 13, 14] rfl ?_
        exact s_X14_chains_375 C hE hrc_X14_chains hr113 hr191 a1 a2 a3 a4 a5 a6 a7 a8 a9 a10 a11 m22 hg
      · replace hg := (if_neg hc).symm.trans hg
        refine rf_goto C 88 375 (by decide +kernel) ?_
        refine rf_few [3, 4, 5, 6, 7, 8, 9, 10, 11, 12, 13, 14] rfl ?_
        exact s_X14_chains_375 C hE hrc_X14_chains hr113 hr191 a1 a2 a3 a4 a5 a6 a7 a8 a9 a10 a11 m hg
    · replace hg := (if_pos hc).symm.trans hg
      refine rf_goto C 171 375 (by decide +kernel) ?_
      refine rf_few [0, 1, 2, 3, 4, 5, 6, 7, 8, 9, 10, 11] rfl ?_
      exact s_X14_chains_375 C hE hrc_X14_chains hr113 hr191 a1 a2 a3 a4 a5 a6 a7 a8 a9 a10 a11 m hg
theorem s_X14_chains_191 {w : rf_w} {K : rf_K} {e : Nat} {rc_X14_chains : rf_m → Int32 → Int32 → Int32 → Int32 → Int32 → Int32 → Option (rf_m)} {r : rf_m} (C : rf_Ctx 14 cX14_chains 17 (e + 3) (rf_sh w) K) (hE : rf_End none K (rf_sh w) 0 0 none (rf_MM w r)) (hrc_X14_chains : ∀ (m : rf_m) (a1 : Int32) (a2 : Int32) (a3 : Int32) (a4 : Int32) (a5 : Int32) (a6 : Int32) (r : rf_m), rc_X14_chains m a1 a2 a3 a4 a5 a6 = some r → rf_Con j_X14_chains e (rf_sh w) [.ref 206, .int a1, .int a2, .int a3, .int a4, .int a5, .int a6] (rf_MM w m) none (rf_MM w r)) {rec113 : Int32 → Int32 → Int32 → Int32 → Int32 → Int32 → Int32 → rf_m → Option (rf_m)} (hr113 : ∀ (a1 : Int32) (a2 : Int32) (a3 : Int32) (a4 : Int32) (a5 : Int32) (a6 : Int32) (a7 : Int32) (m : rf_m), rec113 a1 a2 a3 a4 a5 a6 a7 m = some r → rf_V 17 (rf_sh w) K 0 0 113 ([(0, .ref 206), (1, .int a1), (2, .int a2), (3, .int a3), (4, .int a4), (5, .int a5), (6, .int a6), (7, .int a7)], [], rf_MM w m)) (n : Nat) : ∀ (a1 : Int32) (a2 : Int32) (a3 : Int32) (a4 : Int32) (a5 : Int32) (a6 : Int32) (a7 : Int32) (a8 : Int32) (a9 : Int32) (a10 : Int32) (a11 : Int32) (m : rf_m), g_X14_chains_191 w rc_X14_chains rec113 n a1 a2 a3 a4 a5 a6 a7 a8 a9 a10 a11 m = some r → rf_V 17 (rf_sh w) K 0 0 191 ([(0, .ref 206), (1, .int a1), (2, .int a2), (3, .int a3), (4, .int a4), (5, .int a5), (6, .int a6), (7, .int a7), (8, .int a8), (9, .int a9), (10, .int a10), (11, .int a11)], [], rf_MM w m) := by
  induction n with
  | zero => intro a1 a2 a3 a4 a5 a6 a7 a8 a9 a10 a11 m hg; cases hg
  | succ n ih => intro a1 a2 a3 a4 a5 a6 a7 a8 a9 a10 a11 m hg; exact s_X14_chains_191_b C hE hrc_X14_chains hr113 ih a1 a2 a3 a4 a5 a6 a7 a8 a9 a10 a11 m hg
theorem s_X14_chains_163 {w : rf_w} {K : rf_K} {e : Nat} {rc_X14_chains : rf_m → Int32 → Int32 → Int32 → Int32 → Int32 → Int32 → Option (rf_m)} {r : rf_m} (C : rf_Ctx 14 cX14_chains 17 (e + 3) (rf_sh w) K) (hE : rf_End none K (rf_sh w) 0 0 none (rf_MM w r)) (hrc_X14_chains : ∀ (m : rf_m) (a1 : Int32) (a2 : Int32) (a3 : Int32) (a4 : Int32) (a5 : Int32) (a6 : Int32) (r : rf_m), rc_X14_chains m a1 a2 a3 a4 a5 a6 = some r → rf_Con j_X14_chains e (rf_sh w) [.ref 206, .int a1, .int a2, .int a3, .int a4, .int a5, .int a6] (rf_MM w m) none (rf_MM w r)) {rec113 : Int32 → Int32 → Int32 → Int32 → Int32 → Int32 → Int32 → rf_m → Option (rf_m)} (hr113 : ∀ (a1 : Int32) (a2 : Int32) (a3 : Int32) (a4 : Int32) (a5 : Int32) (a6 : Int32) (a7 : Int32) (m : rf_m), rec113 a1 a2 a3 a4 a5 a6 a7 m = some r → rf_V 17 (rf_sh w) K 0 0 113 ([(0, .ref 206), (1, .int a1), (2, .int a2), (3, .int a3), (4, .int a4), (5, .int a5), (6, .int a6), (7, .int a7)], [], rf_MM w m)) (a1 : Int32) (a2 : Int32) (a3 : Int32) (a4 : Int32) (a5 : Int32) (a6 : Int32) (a7 : Int32) (a8 : Int32) (s0 : Int32) (m : rf_m) (hg : g_X14_chains_163 w rc_X14_chains rec113 a1 a2 a3 a4 a5 a6 a7 a8 s0 m = some r) : rf_V 17 (rf_sh w) K 0 0 163 ([(0, .ref 206), (1, .int a1), (2, .int a2), (3, .int a3), (4, .int a4), (5, .int a5), (6, .int a6), (7, .int a7), (8, .int a8)], [.int s0], rf_MM w m) := by
  unfold g_X14_chains_163 at hg
  refine rf_seg C [(.istore 9, 2), (.iload 9, 2), (.iconst (-1), 1)] (pc' := 168) (S' := ([(9, .int s0), (0, .ref 206), (1, .int a1), (2, .int a2), (3, .int a3), (4, .int a4), (5, .int a5), (6, .int a6), (7, .int a7), (8, .int a8)], [.int ((-1)), .int s0], rf_MM w m)) (by decide +kernel) rfl trivial ?_
  refine rf_icmp_ne C 6 174 (by decide +kernel) (fun hc => ?_) (fun hc => ?_)
  · replace hg := (if_neg hc).symm.trans hg
    obtain ⟨q0, hg⟩ := rf_g_some hg
    refine rf_seg C [(.aload 0, 1), (.invokeinterface 14 66, 3), (.iconst 3, 1), (.iload 8, 2), (.imul, 1), (.iload 9, 2), (.iadd, 1), (.iaload, 1)] (pc' := 186) (S' := ([(9, .int s0), (0, .ref 206), (1, .int a1), (2, .int a2), (3, .int a3), (4, .int a4), (5, .int a5), (6, .int a6), (7, .int a7), (8, .int a8)], [.int (m.1 243 (Int32.toNatClampNeg ((3 * a8) + s0)))], rf_MM w m)) (by decide +kernel) rfl (rf_in_of q0) ?_
    obtain ⟨x1, hx1, hg⟩ := rf_vi_some hg
    refine rf_vi_top hx1 ?_
    refine rf_seg C [(.istore 10, 2), (.iconst 0, 1), (.istore 11, 2)] (pc' := 191) (S' := ([(11, .int 0), (10, .int x1), (9, .int s0), (0, .ref 206), (1, .int a1), (2, .int a2), (3, .int a3), (4, .int a4), (5, .int a5), (6, .int a6), (7, .int a7), (8, .int a8)], [], rf_MM w m)) (by decide +kernel) rfl trivial ?_
    refine rf_few [3, 4, 5, 6, 7, 8, 9, 10, 11, 2, 1, 0] rfl ?_
    exact s_X14_chains_191 C hE hrc_X14_chains hr113 rf_fuel a1 a2 a3 a4 a5 a6 a7 a8 s0 x1 0 m hg
  · replace hg := (if_pos hc).symm.trans hg
    refine rf_goto C 210 381 (by decide +kernel) ?_
    refine rf_few [1, 2, 3, 4, 5, 6, 7, 8] rfl ?_
    exact s_X14_chains_381 C hE hrc_X14_chains hr113 a1 a2 a3 a4 a5 a6 a7 m hg
theorem s_X14_chains_150 {w : rf_w} {K : rf_K} {e : Nat} {rc_X14_chains : rf_m → Int32 → Int32 → Int32 → Int32 → Int32 → Int32 → Option (rf_m)} {r : rf_m} (C : rf_Ctx 14 cX14_chains 17 (e + 3) (rf_sh w) K) (hE : rf_End none K (rf_sh w) 0 0 none (rf_MM w r)) (hrc_X14_chains : ∀ (m : rf_m) (a1 : Int32) (a2 : Int32) (a3 : Int32) (a4 : Int32) (a5 : Int32) (a6 : Int32) (r : rf_m), rc_X14_chains m a1 a2 a3 a4 a5 a6 = some r → rf_Con j_X14_chains e (rf_sh w) [.ref 206, .int a1, .int a2, .int a3, .int a4, .int a5, .int a6] (rf_MM w m) none (rf_MM w r)) {rec113 : Int32 → Int32 → Int32 → Int32 → Int32 → Int32 → Int32 → rf_m → Option (rf_m)} (hr113 : ∀ (a1 : Int32) (a2 : Int32) (a3 : Int32) (a4 : Int32) (a5 : Int32) (a6 : Int32) (a7 : Int32) (m : rf_m), rec113 a1 a2 a3 a4 a5 a6 a7 m = some r → rf_V 17 (rf_sh w) K 0 0 113 ([(0, .ref 206), (1, .int a1), (2, .int a2), (3, .int a3), (4, .int a4), (5, .int a5), (6, .int a6), (7, .int a7)], [], rf_MM w m)) (a1 : Int32) (a2 : Int32) (a3 : Int32) (a4 : Int32) (a5 : Int32) (a6 : Int32) (a7 : Int32) (a8 : Int32) (m : rf_m) (hg : g_X14_chains_150 w rc_X14_chains rec113 a1 a2 a3 a4 a5 a6 a7 a8 m = some r) : rf_V 17 (rf_sh w) K 0 0 150 ([(0, .ref 206), (1, .int a1), (2, .int a2), (3, .int a3), (4, .int a4), (5, .int a5), (6, .int a6), (7, .int a7), (8, .int a8)], [], rf_MM w m) := by
  unfold g_X14_chains_150 at hg
  refine rf_seg C [(.iconst (-1), 1)] (pc' := 151) (S' := ([(0, .ref 206), (1, .int a1), (2, .int a2), (3, .int a3), (4, .int a4), (5, .int a5), (6, .int a6), (7, .int a7), (8, .int a8)], [.int ((-1))], rf_MM w m)) (by decide +kernel) rfl trivial ?_
  refine rf_goto C 12 163 (by decide +kernel) ?_
  refine rf_few [0, 1, 2, 3, 4, 5, 6, 7, 8] rfl ?_
  exact s_X14_chains_163 C hE hrc_X14_chains hr113 a1 a2 a3 a4 a5 a6 a7 a8 ((-1)) m hg
theorem s_X14_chains_113_b {w : rf_w} {K : rf_K} {e : Nat} {rc_X14_chains : rf_m → Int32 → Int32 → Int32 → Int32 → Int32 → Int32 → Option (rf_m)} {r : rf_m} (C : rf_Ctx 14 cX14_chains 17 (e + 3) (rf_sh w) K) (hE : rf_End none K (rf_sh w) 0 0 none (rf_MM w r)) (hrc_X14_chains : ∀ (m : rf_m) (a1 : Int32) (a2 : Int32) (a3 : Int32) (a4 : Int32) (a5 : Int32) (a6 : Int32) (r : rf_m), rc_X14_chains m a1 a2 a3 a4 a5 a6 = some r → rf_Con j_X14_chains e (rf_sh w) [.ref 206, .int a1, .int a2, .int a3, .int a4, .int a5, .int a6] (rf_MM w m) none (rf_MM w r)) {rec113 : Int32 → Int32 → Int32 → Int32 → Int32 → Int32 → Int32 → rf_m → Option (rf_m)} (hr113 : ∀ (a1 : Int32) (a2 : Int32) (a3 : Int32) (a4 : Int32) (a5 : Int32) (a6 : Int32) (a7 : Int32) (m : rf_m), rec113 a1 a2 a3 a4 a5 a6 a7 m = some r → rf_V 17 (rf_sh w) K 0 0 113 ([(0, .ref 206), (1, .int a1), (2, .int a2), (3, .int a3), (4, .int a4), (5, .int a5), (6, .int a6), (7, .int a7)], [], rf_MM w m)) (a1 : Int32) (a2 : Int32) (a3 : Int32) (a4 : Int32) (a5 : Int32) (a6 : Int32) (a7 : Int32) (m : rf_m) (hg : g_X14_chains_113_b w rc_X14_chains rec113 a1 a2 a3 a4 a5 a6 a7 m = some r) : rf_V 17 (rf_sh w) K 0 0 113 ([(0, .ref 206), (1, .int a1), (2, .int a2), (3, .int a3), (4, .int a4), (5, .int a5), (6, .int a6), (7, .int a7)], [], rf_MM w m) := by
  unfold g_X14_chains_113_b at hg
  refine rf_seg C [(.iload 7, 2), (.aload 0, 1), (.invokeinterface 14 104, 3)] (pc' := 119) (S' := ([(0, .ref 206), (1, .int a1), (2, .int a2), (3, .int a3), (4, .int a4), (5, .int a5), (6, .int a6), (7, .int a7)], [.int (m.1 206 104), .int a7], rf_MM w m)) (by decide +kernel) rfl trivial ?_
  refine rf_icmp_ge C 268 387 (by decide +kernel) (fun hc => ?_) (fun hc => ?_)
  · replace hg := (if_pos hc).symm.trans hg
    obtain rfl := Option.some.inj hg
    exact rf_vret C hE (by decide +kernel)
  · replace hg := (if_neg hc).symm.trans hg
    obtain ⟨q0, hg⟩ := rf_g_some hg
    refine rf_seg C [(.aload 0, 1), (.invokeinterface 14 96, 3), (.iload 7, 2), (.iaload, 1)] (pc' := 129) (S' := ([(0, .ref 206), (1, .int a1), (2, .int a2), (3, .int a3), (4, .int a4), (5, .int a5), (6, .int a6), (7, .int a7)], [.int (m.1 271 (Int32.toNatClampNeg a7))], rf_MM w m)) (by decide +kernel) rfl (rf_in_of q0) ?_
    obtain ⟨x1, hx1, hg⟩ := rf_vi_some hg
    refine rf_vi_top hx1 ?_
    refine rf_seg C [(.istore 8, 2), (.iload 2, 1), (.iload 7, 2), (.ishr, 1), (.iconst 1, 1), (.iand, 1), (.iconst 1, 1)] (pc' := 138) (S' := ([(8, .int x1), (0, .ref 206), (1, .int a1), (2, .int a2), (3, .int a3), (4, .int a4), (5, .int a5), (6, .int a6), (7, .int a7)], [.int 1, .int ((a2 >>> (a7 &&& 31)) &&& 1)], rf_MM w m)) (by decide +kernel) rfl trivial ?_
    refine rf_icmp_eq C 12 150 (by decide +kernel) (fun hc => ?_) (fun hc => ?_)
    · replace hg := (if_pos hc).symm.trans hg
      refine rf_few [1, 2, 3, 4, 5, 6, 7, 8, 0] rfl ?_
      exact s_X14_chains_150 C hE hrc_X14_chains hr113 a1 a2 a3 a4 a5 a6 a7 x1 m hg
    · replace hg := (if_neg hc).symm.trans hg
      refine rf_seg C [(.aload 0, 1), (.iload 8, 2)] (pc' := 144) (S' := ([(8, .int x1), (0, .ref 206), (1, .int a1), (2, .int a2), (3, .int a3), (4, .int a4), (5, .int a5), (6, .int a6), (7, .int a7)], [.int x1, .ref 206], rf_MM w m)) (by decide +kernel) rfl trivial ?_
      obtain ⟨y2, m2, hc2, hg⟩ := rf_b_some hg
      refine rf_callv C rf_fit0 j_X14_carries (ci := 14) (As := [.int x1]) (rest := []) mw_X14_carries (c_X14_carries hc2) (by omega) rfl (by decide) lk_14_831 rfl rfl (Nat.le_of_ble_eq_true rfl) (by decide +kernel) ?_
      show rf_V 17 (rf_sh w) K 0 0 147 ([(8, .int x1), (0, .ref 206), (1, .int a1), (2, .int a2), (3, .int a3), (4, .int a4), (5, .int a5), (6, .int a6), (7, .int a7)], [.int y2], rf_MM w m2)
      refine rf_if_ne C 7 154 (by decide +kernel) (fun hc => ?_) (fun hc => ?_)
      · replace hg := (if_neg hc).symm.trans hg
        refine rf_seg C [(.aload 0, 1), (.iload 8, 2), (.iload 3, 1), (.iload 4, 2)] (pc' := 160) (S' := ([(8, .int x1), (0, .ref 206), (1, .int a1), (2, .int a2), (3, .int a3), (4, .int a4), (5, .int a5), (6, .int a6), (7, .int a7)], [.int a4, .int a3, .int x1, .ref 206], rf_MM w m2)) (by decide +kernel) rfl trivial ?_
        obtain ⟨y3, m3, hc3, hg⟩ := rf_b_some hg
        refine rf_callv C rf_fit0 j_X14_opposite (ci := 14) (As := [.int x1, .int a3, .int a4]) (rest := []) mw_X14_opposite (c_X14_opposite hc3) (by omega) rfl (by decide) lk_14_834 rfl rfl (Nat.le_of_ble_eq_true rfl) (by decide +kernel) ?_
        show rf_V 17 (rf_sh w) K 0 0 163 ([(8, .int x1), (0, .ref 206), (1, .int a1), (2, .int a2), (3, .int a3), (4, .int a4), (5, .int a5), (6, .int a6), (7, .int a7)], [.int y3], rf_MM w m3)
        refine rf_few [1, 2, 3, 4, 5, 6, 7, 8, 0] rfl ?_
        exact s_X14_chains_163 C hE hrc_X14_chains hr113 a1 a2 a3 a4 a5 a6 a7 x1 y3 m3 hg
      · replace hg := (if_pos hc).symm.trans hg
        refine rf_few [1, 2, 3, 4, 5, 6, 7, 8, 0] rfl ?_
        exact s_X14_chains_150 C hE hrc_X14_chains hr113 a1 a2 a3 a4 a5 a6 a7 x1 m2 hg
theorem s_X14_chains_113 {w : rf_w} {K : rf_K} {e : Nat} {rc_X14_chains : rf_m → Int32 → Int32 → Int32 → Int32 → Int32 → Int32 → Option (rf_m)} {r : rf_m} (C : rf_Ctx 14 cX14_chains 17 (e + 3) (rf_sh w) K) (hE : rf_End none K (rf_sh w) 0 0 none (rf_MM w r)) (hrc_X14_chains : ∀ (m : rf_m) (a1 : Int32) (a2 : Int32) (a3 : Int32) (a4 : Int32) (a5 : Int32) (a6 : Int32) (r : rf_m), rc_X14_chains m a1 a2 a3 a4 a5 a6 = some r → rf_Con j_X14_chains e (rf_sh w) [.ref 206, .int a1, .int a2, .int a3, .int a4, .int a5, .int a6] (rf_MM w m) none (rf_MM w r)) (n : Nat) : ∀ (a1 : Int32) (a2 : Int32) (a3 : Int32) (a4 : Int32) (a5 : Int32) (a6 : Int32) (a7 : Int32) (m : rf_m), g_X14_chains_113 w rc_X14_chains n a1 a2 a3 a4 a5 a6 a7 m = some r → rf_V 17 (rf_sh w) K 0 0 113 ([(0, .ref 206), (1, .int a1), (2, .int a2), (3, .int a3), (4, .int a4), (5, .int a5), (6, .int a6), (7, .int a7)], [], rf_MM w m) := by
  induction n with
  | zero => intro a1 a2 a3 a4 a5 a6 a7 m hg; cases hg
  | succ n ih => intro a1 a2 a3 a4 a5 a6 a7 m hg; exact s_X14_chains_113_b C hE hrc_X14_chains ih a1 a2 a3 a4 a5 a6 a7 m hg
theorem s_X14_chains_103 {w : rf_w} {K : rf_K} {e : Nat} {rc_X14_chains : rf_m → Int32 → Int32 → Int32 → Int32 → Int32 → Int32 → Option (rf_m)} {r : rf_m} (C : rf_Ctx 14 cX14_chains 17 (e + 3) (rf_sh w) K) (hE : rf_End none K (rf_sh w) 0 0 none (rf_MM w r)) (hrc_X14_chains : ∀ (m : rf_m) (a1 : Int32) (a2 : Int32) (a3 : Int32) (a4 : Int32) (a5 : Int32) (a6 : Int32) (r : rf_m), rc_X14_chains m a1 a2 a3 a4 a5 a6 = some r → rf_Con j_X14_chains e (rf_sh w) [.ref 206, .int a1, .int a2, .int a3, .int a4, .int a5, .int a6] (rf_MM w m) none (rf_MM w r)) (a1 : Int32) (a2 : Int32) (a3 : Int32) (a4 : Int32) (a5 : Int32) (a6 : Int32) (m : rf_m) (hg : g_X14_chains_103 w rc_X14_chains a1 a2 a3 a4 a5 a6 m = some r) : rf_V 17 (rf_sh w) K 0 0 103 ([(0, .ref 206), (1, .int a1), (2, .int a2), (3, .int a3), (4, .int a4), (5, .int a5), (6, .int a6)], [], rf_MM w m) := by
  unfold g_X14_chains_103 at hg
  refine rf_seg C [(.iload 1, 1), (.iconst 6, 2)] (pc' := 106) (S' := ([(0, .ref 206), (1, .int a1), (2, .int a2), (3, .int a3), (4, .int a4), (5, .int a5), (6, .int a6)], [.int 6, .int a1], rf_MM w m)) (by decide +kernel) rfl trivial ?_
  refine rf_icmp_ne C 4 110 (by decide +kernel) (fun hc => ?_) (fun hc => ?_)
  · replace hg := (if_neg hc).symm.trans hg
    refine rf_seg C [(.iconst 0, 1), (.istore 7, 2)] (pc' := 113) (S' := ([(7, .int 0), (0, .ref 206), (1, .int a1), (2, .int a2), (3, .int a3), (4, .int a4), (5, .int a5), (6, .int a6)], [], rf_MM w m)) (by decide +kernel) rfl trivial ?_
    refine rf_few [1, 2, 3, 4, 5, 6, 7, 0] rfl ?_
    exact s_X14_chains_113 C hE hrc_X14_chains rf_fuel a1 a2 a3 a4 a5 a6 0 m hg
  · replace hg := (if_pos hc).symm.trans hg
    obtain rfl := Option.some.inj hg
    exact rf_vret C hE (by decide +kernel)
theorem s_X14_chains_49_b {w : rf_w} {K : rf_K} {e : Nat} {rc_X14_chains : rf_m → Int32 → Int32 → Int32 → Int32 → Int32 → Int32 → Option (rf_m)} {r : rf_m} (C : rf_Ctx 14 cX14_chains 17 (e + 3) (rf_sh w) K) (hE : rf_End none K (rf_sh w) 0 0 none (rf_MM w r)) (hrc_X14_chains : ∀ (m : rf_m) (a1 : Int32) (a2 : Int32) (a3 : Int32) (a4 : Int32) (a5 : Int32) (a6 : Int32) (r : rf_m), rc_X14_chains m a1 a2 a3 a4 a5 a6 = some r → rf_Con j_X14_chains e (rf_sh w) [.ref 206, .int a1, .int a2, .int a3, .int a4, .int a5, .int a6] (rf_MM w m) none (rf_MM w r)) {rec49 : Int32 → Int32 → Int32 → Int32 → Int32 → Int32 → Int32 → rf_m → Option (rf_m)} (hr49 : ∀ (a1 : Int32) (a2 : Int32) (a3 : Int32) (a4 : Int32) (a5 : Int32) (a6 : Int32) (a7 : Int32) (m : rf_m), rec49 a1 a2 a3 a4 a5 a6 a7 m = some r → rf_V 17 (rf_sh w) K 0 0 49 ([(0, .ref 206), (1, .int a1), (2, .int a2), (3, .int a3), (4, .int a4), (5, .int a5), (6, .int a6), (7, .int a7)], [], rf_MM w m)) (a1 : Int32) (a2 : Int32) (a3 : Int32) (a4 : Int32) (a5 : Int32) (a6 : Int32) (a7 : Int32) (m : rf_m) (hg : g_X14_chains_49_b w rc_X14_chains rec49 a1 a2 a3 a4 a5 a6 a7 m = some r) : rf_V 17 (rf_sh w) K 0 0 49 ([(0, .ref 206), (1, .int a1), (2, .int a2), (3, .int a3), (4, .int a4), (5, .int a5), (6, .int a6), (7, .int a7)], [], rf_MM w m) := by
  unfold g_X14_chains_49_b at hg
  refine rf_seg C [(.iload 7, 2), (.iload 1, 1)] (pc' := 52) (S' := ([(0, .ref 206), (1, .int a1), (2, .int a2), (3, .int a3), (4, .int a4), (5, .int a5), (6, .int a6), (7, .int a7)], [.int a1, .int a7], rf_MM w m)) (by decide +kernel) rfl trivial ?_
  refine rf_icmp_ge C 51 103 (by decide +kernel) (fun hc => ?_) (fun hc => ?_)
  · replace hg := (if_pos hc).symm.trans hg
    refine rf_few [0, 1, 2, 3, 4, 5, 6] rfl ?_
    exact s_X14_chains_103 C hE hrc_X14_chains a1 a2 a3 a4 a5 a6 m hg
  · replace hg := (if_neg hc).symm.trans hg
    obtain ⟨q0, hg⟩ := rf_g_some hg
    obtain ⟨q1, hg⟩ := rf_g_some hg
    obtain ⟨q2, hg⟩ := rf_g_some hg
    obtain ⟨q3, hg⟩ := rf_g_some hg
    obtain ⟨q4, hg⟩ := rf_g_some hg
    obtain ⟨q5, hg⟩ := rf_g_some hg
    refine rf_seg C [(.aload 0, 1), (.invokeinterface 14 100, 3), (.iload 7, 2), (.aload 0, 1), (.invokeinterface 14 97, 3), (.iload 7, 2), (.iaload, 1), (.iastore, 1), (.aload 0, 1), (.invokeinterface 14 101, 3), (.iload 7, 2), (.aload 0, 1), (.invokeinterface 14 98, 3), (.iload 7, 2), (.iaload, 1), (.iastore, 1), (.aload 0, 1), (.invokeinterface 14 102, 3), (.iload 7, 2), (.aload 0, 1), (.invokeinterface 14 99, 3), (.iload 7, 2), (.iaload, 1), (.iastore, 1), (.iinc 7 1, 3)] (pc' := 100) (S' := ([(7, .int (a7 + 1)), (0, .ref 206), (1, .int a1), (2, .int a2), (3, .int a3), (4, .int a4), (5, .int a5), (6, .int a6)], [], rf_MM w (rf_i (rf_i (rf_i m 275 (Int32.toNatClampNeg a7) (m.1 272 (Int32.toNatClampNeg a7))) 276 (Int32.toNatClampNeg a7) ((rf_i m 275 (Int32.toNatClampNeg a7) (m.1 272 (Int32.toNatClampNeg a7))).1 273 (Int32.toNatClampNeg a7))) 277 (Int32.toNatClampNeg a7) ((rf_i (rf_i m 275 (Int32.toNatClampNeg a7) (m.1 272 (Int32.toNatClampNeg a7))) 276 (Int32.toNatClampNeg a7) ((rf_i m 275 (Int32.toNatClampNeg a7) (m.1 272 (Int32.toNatClampNeg a7))).1 273 (Int32.toNatClampNeg a7))).1 274 (Int32.toNatClampNeg a7))))) (by decide +kernel) rfl (by exact ⟨(rf_in_of q0), (rf_in_of q1), (rf_in_of q2), (rf_in_of q3), (rf_in_of q4), (rf_in_of q5)⟩) ?_
    refine rf_goto C (-51) 49 (by decide +kernel) ?_
    refine rf_few [1, 2, 3, 4, 5, 6, 7, 0] rfl ?_
    exact hr49 a1 a2 a3 a4 a5 a6 (a7 + 1) (rf_i (rf_i (rf_i m 275 (Int32.toNatClampNeg a7) (m.1 272 (Int32.toNatClampNeg a7))) 276 (Int32.toNatClampNeg a7) ((rf_i m 275 (Int32.toNatClampNeg a7) (m.1 272 (Int32.toNatClampNeg a7))).1 273 (Int32.toNatClampNeg a7))) 277 (Int32.toNatClampNeg a7) ((rf_i (rf_i m 275 (Int32.toNatClampNeg a7) (m.1 272 (Int32.toNatClampNeg a7))) 276 (Int32.toNatClampNeg a7) ((rf_i m 275 (Int32.toNatClampNeg a7) (m.1 272 (Int32.toNatClampNeg a7))).1 273 (Int32.toNatClampNeg a7))).1 274 (Int32.toNatClampNeg a7))) hg
theorem s_X14_chains_49 {w : rf_w} {K : rf_K} {e : Nat} {rc_X14_chains : rf_m → Int32 → Int32 → Int32 → Int32 → Int32 → Int32 → Option (rf_m)} {r : rf_m} (C : rf_Ctx 14 cX14_chains 17 (e + 3) (rf_sh w) K) (hE : rf_End none K (rf_sh w) 0 0 none (rf_MM w r)) (hrc_X14_chains : ∀ (m : rf_m) (a1 : Int32) (a2 : Int32) (a3 : Int32) (a4 : Int32) (a5 : Int32) (a6 : Int32) (r : rf_m), rc_X14_chains m a1 a2 a3 a4 a5 a6 = some r → rf_Con j_X14_chains e (rf_sh w) [.ref 206, .int a1, .int a2, .int a3, .int a4, .int a5, .int a6] (rf_MM w m) none (rf_MM w r)) (n : Nat) : ∀ (a1 : Int32) (a2 : Int32) (a3 : Int32) (a4 : Int32) (a5 : Int32) (a6 : Int32) (a7 : Int32) (m : rf_m), g_X14_chains_49 w rc_X14_chains n a1 a2 a3 a4 a5 a6 a7 m = some r → rf_V 17 (rf_sh w) K 0 0 49 ([(0, .ref 206), (1, .int a1), (2, .int a2), (3, .int a3), (4, .int a4), (5, .int a5), (6, .int a6), (7, .int a7)], [], rf_MM w m) := by
  induction n with
  | zero => intro a1 a2 a3 a4 a5 a6 a7 m hg; cases hg
  | succ n ih => intro a1 a2 a3 a4 a5 a6 a7 m hg; exact s_X14_chains_49_b C hE hrc_X14_chains ih a1 a2 a3 a4 a5 a6 a7 m hg
theorem c_X14_chains_f {w : rf_w} {e : Nat} {rc_X14_chains : rf_m → Int32 → Int32 → Int32 → Int32 → Int32 → Int32 → Option (rf_m)} {m : rf_m} {a1 : Int32} {a2 : Int32} {a3 : Int32} {a4 : Int32} {a5 : Int32} {a6 : Int32} {r : rf_m} (hrc_X14_chains : ∀ (m : rf_m) (a1 : Int32) (a2 : Int32) (a3 : Int32) (a4 : Int32) (a5 : Int32) (a6 : Int32) (r : rf_m), rc_X14_chains m a1 a2 a3 a4 a5 a6 = some r → rf_Con j_X14_chains e (rf_sh w) [.ref 206, .int a1, .int a2, .int a3, .int a4, .int a5, .int a6] (rf_MM w m) none (rf_MM w r)) (hg : g_X14_chains_f w rc_X14_chains m a1 a2 a3 a4 a5 a6 = some r) : rf_Con j_X14_chains (e + 3) (rf_sh w) [.ref 206, .int a1, .int a2, .int a3, .int a4, .int a5, .int a6] (rf_MM w m) none (rf_MM w r) := by
  refine rf_con j_X14_chains (e + 3) ⟨by decide +kernel, rfl, Nat.le_of_ble_eq_true rfl⟩ (fun K C hE => ?_)
  unfold g_X14_chains_f at hg
  show rf_V 17 (rf_sh w) K 0 0 0 ([(0, .ref 206), (1, .int a1), (2, .int a2), (3, .int a3), (4, .int a4), (5, .int a5), (6, .int a6)], [], rf_MM w m)
  refine rf_seg C [(.iload 3, 1), (.aload 0, 1), (.invokeinterface 14 108, 3)] (pc' := 5) (S' := ([(0, .ref 206), (1, .int a1), (2, .int a2), (3, .int a3), (4, .int a4), (5, .int a5), (6, .int a6)], [.int (m.1 206 108), .int a3], rf_MM w m)) (by decide +kernel) rfl trivial ?_
  refine rf_icmp_ne C 98 103 (by decide +kernel) (fun hc => ?_) (fun hc => ?_)
  · replace hg := (if_neg hc).symm.trans hg
    refine rf_few [0, 1, 2, 3, 4, 5, 6] rfl ?_
    exact s_X14_chains_103 C hE hrc_X14_chains a1 a2 a3 a4 a5 a6 m hg
  · replace hg := (if_pos hc).symm.trans hg
    refine rf_seg C [(.iload 4, 2), (.aload 0, 1), (.invokeinterface 14 109, 3)] (pc' := 14) (S' := ([(0, .ref 206), (1, .int a1), (2, .int a2), (3, .int a3), (4, .int a4), (5, .int a5), (6, .int a6)], [.int (m.1 206 109), .int a4], rf_MM w m)) (by decide +kernel) rfl trivial ?_
    refine rf_icmp_ne C 89 103 (by decide +kernel) (fun hc => ?_) (fun hc => ?_)
    · replace hg := (if_neg hc).symm.trans hg
      refine rf_few [0, 1, 2, 3, 4, 5, 6] rfl ?_
      exact s_X14_chains_103 C hE hrc_X14_chains a1 a2 a3 a4 a5 a6 m hg
    · replace hg := (if_pos hc).symm.trans hg
      refine rf_seg C [(.aload 0, 1), (.iload 1, 1), (.iload 5, 2), (.iload 6, 2)] (pc' := 23) (S' := ([(0, .ref 206), (1, .int a1), (2, .int a2), (3, .int a3), (4, .int a4), (5, .int a5), (6, .int a6)], [.int a6, .int a5, .int a1, .ref 206], rf_MM w m)) (by decide +kernel) rfl trivial ?_
      obtain ⟨y0, m0, hc0, hg⟩ := rf_b_some hg
      refine rf_callv C rf_fit0 j_X14_isBetter (ci := 14) (As := [.int a1, .int a5, .int a6]) (rest := []) mw_X14_isBetter (c_X14_isBetter hc0) (by omega) rfl (by decide) lk_14_825 rfl rfl (Nat.le_of_ble_eq_true rfl) (by decide +kernel) ?_
      show rf_V 17 (rf_sh w) K 0 0 26 ([(0, .ref 206), (1, .int a1), (2, .int a2), (3, .int a3), (4, .int a4), (5, .int a5), (6, .int a6)], [.int y0], rf_MM w m0)
      refine rf_if_eq C 77 103 (by decide +kernel) (fun hc => ?_) (fun hc => ?_)
      · replace hg := (if_pos hc).symm.trans hg
        refine rf_few [0, 1, 2, 3, 4, 5, 6] rfl ?_
        exact s_X14_chains_103 C hE hrc_X14_chains a1 a2 a3 a4 a5 a6 m0 hg
      · replace hg := (if_neg hc).symm.trans hg
        refine rf_seg C [(.aload 0, 1), (.iload 1, 1), (.multianewarray 14 105, 3), (.aload 0, 1), (.iload 5, 2), (.multianewarray 14 106, 3), (.aload 0, 1), (.iload 6, 2), (.multianewarray 14 107, 3), (.iconst 0, 1), (.istore 7, 2)] (pc' := 49) (S' := ([(7, .int 0), (0, .ref 206), (1, .int a1), (2, .int a2), (3, .int a3), (4, .int a4), (5, .int a5), (6, .int a6)], [], rf_MM w (rf_i (rf_i (rf_i m0 206 105 a1) 206 106 a5) 206 107 a6))) (by decide +kernel) rfl trivial ?_
        refine rf_few [1, 2, 3, 4, 5, 6, 7, 0] rfl ?_
        exact s_X14_chains_49 C hE hrc_X14_chains rf_fuel a1 a2 a3 a4 a5 a6 0 (rf_i (rf_i (rf_i m0 206 105 a1) 206 106 a5) 206 107 a6) hg
theorem c_X14_chains {w : rf_w} (n : Nat) : ∀ {m : rf_m} {a1 : Int32} {a2 : Int32} {a3 : Int32} {a4 : Int32} {a5 : Int32} {a6 : Int32} {r : rf_m}, g_X14_chains w n m a1 a2 a3 a4 a5 a6 = some r → rf_Con j_X14_chains (n * 3) (rf_sh w) [.ref 206, .int a1, .int a2, .int a3, .int a4, .int a5, .int a6] (rf_MM w m) none (rf_MM w r) := by
  induction n with
  | zero => intro m a1 a2 a3 a4 a5 a6 r hg; cases hg
  | succ n ih =>
    intro m a1 a2 a3 a4 a5 a6 r hg
    rw [Nat.succ_mul]
    exact c_X14_chains_f (e := n * 3) (rc_X14_chains := g_X14_chains w n) (fun m a1 a2 a3 a4 a5 a6 r h => ih h) hg
-- X14_chainOf
abbrev j_X14_chainOf : rf_J := (14, yX14_chainOf, cX14_chainOf, 5, (some .int))
theorem mw_X14_chainOf : rf_mv j_X14_chainOf (rf_R 14) 3 := ⟨⟨rf_mem 79 (by decide +kernel), rf_mem 79 (by decide +kernel), rf_mem 0 (by decide +kernel), rf_mem 79 (by decide +kernel)⟩, by decide +kernel, by decide⟩
def g_X14_chainOf_184_b (w : rf_w) (rec184 : Int32 → rf_m → Option (Int32 × rf_m)) (a4 : Int32) (m : rf_m) : Option (Int32 × rf_m) := (if (m.1 206 105) ≤ a4 then some (0, m) else rf_g (rf_in a4 6) (rf_g (rf_in a4 6) (rec184 (a4 + 1) (rf_i m 278 (Int32.toNatClampNeg a4) (m.1 275 (Int32.toNatClampNeg a4))))))
def g_X14_chainOf_184 (w : rf_w) : Nat → Int32 → rf_m → Option (Int32 × rf_m)
  | 0, _, _ => none
  | n + 1, a4, m => g_X14_chainOf_184_b w (g_X14_chainOf_184 w n) a4 m
def g_X14_chainOf_54 (w : rf_w) (rec12 : Int32 → Int32 → Int32 → Int32 → rf_m → Option (Int32 × rf_m)) (a1 : Int32) (a2 : Int32) (a3 : Int32) (a4 : Int32) (m : rf_m) : Option (Int32 × rf_m) := rec12 a1 a2 a3 (a4 + 1) m
def g_X14_chainOf_12_b (w : rf_w) (rec12 : Int32 → Int32 → Int32 → Int32 → rf_m → Option (Int32 × rf_m)) (a1 : Int32) (a2 : Int32) (a3 : Int32) (a4 : Int32) (m : rf_m) : Option (Int32 × rf_m) := (if (m.1 206 64) ≤ a4 then (if (m.1 206 104) ≤ 8 then rf_bv (g_X14_allSines w m) fun m0 => rf_b (g_min w (rf_i m0 206 105 ((-1))) a2 a3) fun y1 m1 => rf_b (g_max w (rf_i m1 206 108 y1) a2 a3) fun y2 m2 => rf_g (rf_in a1 6) (rf_g (rf_in a1 6) (rf_b (g_min w (rf_i m2 206 109 y2) ((rf_i m2 206 109 y2).1 236 (Int32.toNatClampNeg a1)) ((rf_i m2 206 109 y2).1 237 (Int32.toNatClampNeg a1))) fun y5 m5 => rf_g (rf_in a1 6) (rf_g (rf_in a1 6) (rf_b (g_max w m5 (m5.1 236 (Int32.toNatClampNeg a1)) (m5.1 237 (Int32.toNatClampNeg a1))) fun y8 m8 => rf_b (g_X14_spanOf w m8 a1 0) fun y9 m9 => rf_b (g_X14_spanOf w m9 a1 1) fun y10 m10 => rf_bv (g_X14_chains w 16 m10 0 0 y5 y8 y9 y10) fun m11 => (if (m11.1 206 105) = ((-1)) then some (5, m11) else g_X14_chainOf_184 w rf_fuel 0 (rf_i (rf_i (rf_i m11 206 110 (m11.1 206 105)) 206 111 ((rf_i m11 206 110 (m11.1 206 105)).1 206 106)) 206 112 ((rf_i (rf_i m11 206 110 (m11.1 206 105)) 206 111 ((rf_i m11 206 110 (m11.1 206 105)).1 206 106)).1 206 107))))))) else some (7, m)) else rf_b (g_X14_isWell w m a4) fun y12 m12 => (if y12 = 0 then g_X14_chainOf_54 w rec12 a1 a2 a3 a4 m12 else rf_g (rf_in (m12.1 206 104) 30) (g_X14_chainOf_54 w rec12 a1 a2 a3 a4 (rf_i (rf_i m12 271 (Int32.toNatClampNeg (m12.1 206 104)) a4) 206 104 (((rf_i m12 271 (Int32.toNatClampNeg (m12.1 206 104)) a4).1 206 104) + 1)))))
def g_X14_chainOf_12 (w : rf_w) : Nat → Int32 → Int32 → Int32 → Int32 → rf_m → Option (Int32 × rf_m)
  | 0, _, _, _, _, _ => none
  | n + 1, a1, a2, a3, a4, m => g_X14_chainOf_12_b w (g_X14_chainOf_12 w n) a1 a2 a3 a4 m
def g_X14_chainOf (w : rf_w) (m : rf_m) (a1 : Int32) (a2 : Int32) (a3 : Int32) : Option (Int32 × rf_m) := rf_bv (g_X14_allMeans w m) fun m0 => g_X14_chainOf_12 w rf_fuel a1 a2 a3 0 (rf_i m0 206 104 0)
theorem s_X14_chainOf_184_b {w : rf_w} {K : rf_K} {r : Int32 × rf_m} (C : rf_Ctx 14 cX14_chainOf 5 49 (rf_sh w) K) (hE : rf_End (some .int) K (rf_sh w) 0 0 (some (.int r.1)) (rf_MM w r.2)) {rec184 : Int32 → rf_m → Option (Int32 × rf_m)} (hr184 : ∀ (a4 : Int32) (m : rf_m), rec184 a4 m = some r → rf_V 5 (rf_sh w) K 0 0 184 ([(0, .ref 206), (4, .int a4)], [], rf_MM w m)) (a4 : Int32) (m : rf_m) (hg : g_X14_chainOf_184_b w rec184 a4 m = some r) : rf_V 5 (rf_sh w) K 0 0 184 ([(0, .ref 206), (4, .int a4)], [], rf_MM w m) := by
  unfold g_X14_chainOf_184_b at hg
  refine rf_seg C [(.iload 4, 2), (.aload 0, 1), (.invokeinterface 14 105, 3)] (pc' := 190) (S' := ([(0, .ref 206), (4, .int a4)], [.int (m.1 206 105), .int a4], rf_MM w m)) (by decide +kernel) rfl trivial ?_
  refine rf_icmp_ge C 23 213 (by decide +kernel) (fun hc => ?_) (fun hc => ?_)
  · replace hg := (if_pos hc).symm.trans hg
    refine rf_seg C [(.iconst 0, 1)] (pc' := 214) (S' := ([(0, .ref 206), (4, .int a4)], [.int 0], rf_MM w m)) (by decide +kernel) rfl trivial ?_
    obtain rfl := Option.some.inj hg
    exact rf_iret C hE (by decide +kernel)
  · replace hg := (if_neg hc).symm.trans hg
    obtain ⟨q0, hg⟩ := rf_g_some hg
    obtain ⟨q1, hg⟩ := rf_g_some hg
    refine rf_seg C [(.aload 0, 1), (.invokeinterface 14 103, 3), (.iload 4, 2), (.aload 0, 1), (.invokeinterface 14 100, 3), (.iload 4, 2), (.iaload, 1), (.iastore, 1), (.iinc 4 1, 3)] (pc' := 210) (S' := ([(4, .int (a4 + 1)), (0, .ref 206)], [], rf_MM w (rf_i m 278 (Int32.toNatClampNeg a4) (m.1 275 (Int32.toNatClampNeg a4))))) (by decide +kernel) rfl (by exact ⟨(rf_in_of q0), (rf_in_of q1)⟩) ?_
    refine rf_goto C (-26) 184 (by decide +kernel) ?_
    refine rf_few [1, 0] rfl ?_
    exact hr184 (a4 + 1) (rf_i m 278 (Int32.toNatClampNeg a4) (m.1 275 (Int32.toNatClampNeg a4))) hg
theorem s_X14_chainOf_184 {w : rf_w} {K : rf_K} {r : Int32 × rf_m} (C : rf_Ctx 14 cX14_chainOf 5 49 (rf_sh w) K) (hE : rf_End (some .int) K (rf_sh w) 0 0 (some (.int r.1)) (rf_MM w r.2)) (n : Nat) : ∀ (a4 : Int32) (m : rf_m), g_X14_chainOf_184 w n a4 m = some r → rf_V 5 (rf_sh w) K 0 0 184 ([(0, .ref 206), (4, .int a4)], [], rf_MM w m) := by
  induction n with
  | zero => intro a4 m hg; cases hg
  | succ n ih => intro a4 m hg; exact s_X14_chainOf_184_b C hE ih a4 m hg
theorem s_X14_chainOf_54 {w : rf_w} {K : rf_K} {r : Int32 × rf_m} (C : rf_Ctx 14 cX14_chainOf 5 49 (rf_sh w) K) (hE : rf_End (some .int) K (rf_sh w) 0 0 (some (.int r.1)) (rf_MM w r.2)) {rec12 : Int32 → Int32 → Int32 → Int32 → rf_m → Option (Int32 × rf_m)} (hr12 : ∀ (a1 : Int32) (a2 : Int32) (a3 : Int32) (a4 : Int32) (m : rf_m), rec12 a1 a2 a3 a4 m = some r → rf_V 5 (rf_sh w) K 0 0 12 ([(0, .ref 206), (1, .int a1), (2, .int a2), (3, .int a3), (4, .int a4)], [], rf_MM w m)) (a1 : Int32) (a2 : Int32) (a3 : Int32) (a4 : Int32) (m : rf_m) (hg : g_X14_chainOf_54 w rec12 a1 a2 a3 a4 m = some r) : rf_V 5 (rf_sh w) K 0 0 54 ([(0, .ref 206), (1, .int a1), (2, .int a2), (3, .int a3), (4, .int a4)], [], rf_MM w m) := by
  unfold g_X14_chainOf_54 at hg
  refine rf_seg C [(.iinc 4 1, 3)] (pc' := 57) (S' := ([(4, .int (a4 + 1)), (0, .ref 206), (1, .int a1), (2, .int a2), (3, .int a3)], [], rf_MM w m)) (by decide +kernel) rfl trivial ?_
  refine rf_goto C (-45) 12 (by decide +kernel) ?_
  refine rf_few [1, 2, 3, 4, 0] rfl ?_
  exact hr12 a1 a2 a3 (a4 + 1) m hg
theorem s_X14_chainOf_12_b {w : rf_w} {K : rf_K} {r : Int32 × rf_m} (C : rf_Ctx 14 cX14_chainOf 5 49 (rf_sh w) K) (hE : rf_End (some .int) K (rf_sh w) 0 0 (some (.int r.1)) (rf_MM w r.2)) {rec12 : Int32 → Int32 → Int32 → Int32 → rf_m → Option (Int32 × rf_m)} (hr12 : ∀ (a1 : Int32) (a2 : Int32) (a3 : Int32) (a4 : Int32) (m : rf_m), rec12 a1 a2 a3 a4 m = some r → rf_V 5 (rf_sh w) K 0 0 12 ([(0, .ref 206), (1, .int a1), (2, .int a2), (3, .int a3), (4, .int a4)], [], rf_MM w m)) (a1 : Int32) (a2 : Int32) (a3 : Int32) (a4 : Int32) (m : rf_m) (hg : g_X14_chainOf_12_b w rec12 a1 a2 a3 a4 m = some r) : rf_V 5 (rf_sh w) K 0 0 12 ([(0, .ref 206), (1, .int a1), (2, .int a2), (3, .int a3), (4, .int a4)], [], rf_MM w m) := by
  unfold g_X14_chainOf_12_b at hg
  refine rf_seg C [(.iload 4, 2), (.aload 0, 1), (.invokeinterface 14 64, 3)] (pc' := 18) (S' := ([(0, .ref 206), (1, .int a1), (2, .int a2), (3, .int a3), (4, .int a4)], [.int (m.1 206 64), .int a4], rf_MM w m)) (by decide +kernel) rfl trivial ?_
  refine rf_icmp_ge C 42 60 (by decide +kernel) (fun hc => ?_) (fun hc => ?_)
  · replace hg := (if_pos hc).symm.trans hg
    refine rf_seg C [(.aload 0, 1), (.invokeinterface 14 104, 3), (.iconst 8, 2)] (pc' := 66) (S' := ([(0, .ref 206), (1, .int a1), (2, .int a2), (3, .int a3), (4, .int a4)], [.int 8, .int (m.1 206 104)], rf_MM w m)) (by decide +kernel) rfl trivial ?_
    refine rf_icmp_le C 6 72 (by decide +kernel) (fun hc => ?_) (fun hc => ?_)
    · replace hg := (if_pos hc).symm.trans hg
      refine rf_seg C [(.aload 0, 1)] (pc' := 73) (S' := ([(0, .ref 206), (1, .int a1), (2, .int a2), (3, .int a3), (4, .int a4)], [.ref 206], rf_MM w m)) (by decide +kernel) rfl trivial ?_
      obtain ⟨m0, hc0, hg⟩ := rf_bv_some hg
      refine rf_callv C rf_fit0 j_X14_allSines (ci := 14) (As := []) (rest := []) mw_X14_allSines (c_X14_allSines hc0) (by decide) rfl (by decide) lk_14_842 rfl rfl (Nat.le_of_ble_eq_true rfl) (by decide +kernel) ?_
      show rf_V 5 (rf_sh w) K 0 0 76 ([(0, .ref 206), (1, .int a1), (2, .int a2), (3, .int a3), (4, .int a4)], [], rf_MM w m0)
      refine rf_seg C [(.aload 0, 1), (.iconst (-1), 1), (.multianewarray 14 105, 3), (.aload 0, 1), (.iload 2, 1), (.iload 3, 1)] (pc' := 84) (S' := ([(0, .ref 206), (1, .int a1), (2, .int a2), (3, .int a3), (4, .int a4)], [.int a3, .int a2, .ref 206], rf_MM w (rf_i m0 206 105 ((-1))))) (by decide +kernel) rfl trivial ?_
      obtain ⟨y1, m1, hc1, hg⟩ := rf_b_some hg
      refine rf_calls C rf_fit0 j_min (As := [.int a2, .int a3]) (rest := [.ref 206]) mw_min (c_min hc1) (by decide) lk_14_443 rfl rfl (Nat.le_of_ble_eq_true rfl) (by decide +kernel) ?_
      show rf_V 5 (rf_sh w) K 0 0 87 ([(0, .ref 206), (1, .int a1), (2, .int a2), (3, .int a3), (4, .int a4)], [.int y1, .ref 206], rf_MM w m1)
      refine rf_seg C [(.multianewarray 14 108, 3), (.aload 0, 1), (.iload 2, 1), (.iload 3, 1)] (pc' := 93) (S' := ([(0, .ref 206), (1, .int a1), (2, .int a2), (3, .int a3), (4, .int a4)], [.int a3, .int a2, .ref 206], rf_MM w (rf_i m1 206 108 y1))) (by decide +kernel) rfl trivial ?_
      obtain ⟨y2, m2, hc2, hg⟩ := rf_b_some hg
      refine rf_calls C rf_fit0 j_max (As := [.int a2, .int a3]) (rest := [.ref 206]) mw_max (c_max hc2) (by decide) lk_14_375 rfl rfl (Nat.le_of_ble_eq_true rfl) (by decide +kernel) ?_
      show rf_V 5 (rf_sh w) K 0 0 96 ([(0, .ref 206), (1, .int a1), (2, .int a2), (3, .int a3), (4, .int a4)], [.int y2, .ref 206], rf_MM w m2)
      obtain ⟨q3, hg⟩ := rf_g_some hg
      obtain ⟨q4, hg⟩ := rf_g_some hg
      refine rf_seg C [(.multianewarray 14 109, 3), (.aload 0, 1), (.iconst 0, 1), (.iconst 0, 1), (.aload 0, 1), (.invokeinterface 14 57, 3), (.iload 1, 1), (.iaload, 1), (.aload 0, 1), (.invokeinterface 14 58, 3), (.iload 1, 1), (.iaload, 1)] (pc' := 114) (S' := ([(0, .ref 206), (1, .int a1), (2, .int a2), (3, .int a3), (4, .int a4)], [.int ((rf_i m2 206 109 y2).1 237 (Int32.toNatClampNeg a1)), .int ((rf_i m2 206 109 y2).1 236 (Int32.toNatClampNeg a1)), .int 0, .int 0, .ref 206], rf_MM w (rf_i m2 206 109 y2))) (by decide +kernel) rfl (by exact ⟨(rf_in_of q3), (rf_in_of q4)⟩) ?_
      obtain ⟨y5, m5, hc5, hg⟩ := rf_b_some hg
      refine rf_calls C rf_fit0 j_min (As := [.int ((rf_i m2 206 109 y2).1 236 (Int32.toNatClampNeg a1)), .int ((rf_i m2 206 109 y2).1 237 (Int32.toNatClampNeg a1))]) (rest := [.int 0, .int 0, .ref 206]) mw_min (c_min hc5) (by decide) lk_14_443 rfl rfl (Nat.le_of_ble_eq_true rfl) (by decide +kernel) ?_
      show rf_V 5 (rf_sh w) K 0 0 117 ([(0, .ref 206), (1, .int a1), (2, .int a2), (3, .int a3), (4, .int a4)], [.int y5, .int 0, .int 0, .ref 206], rf_MM w m5)
      obtain ⟨q6, hg⟩ := rf_g_some hg
      obtain ⟨q7, hg⟩ := rf_g_some hg
      refine rf_seg C [(.aload 0, 1), (.invokeinterface 14 57, 3), (.iload 1, 1), (.iaload, 1), (.aload 0, 1), (.invokeinterface 14 58, 3), (.iload 1, 1), (.iaload, 1)] (pc' := 129) (S' := ([(0, .ref 206), (1, .int a1), (2, .int a2), (3, .int a3), (4, .int a4)], [.int (m5.1 237 (Int32.toNatClampNeg a1)), .int (m5.1 236 (Int32.toNatClampNeg a1)), .int y5, .int 0, .int 0, .ref 206], rf_MM w m5)) (by decide +kernel) rfl (by exact ⟨(rf_in_of q6), (rf_in_of q7)⟩) ?_
      obtain ⟨y8, m8, hc8, hg⟩ := rf_b_some hg
      refine rf_calls C rf_fit0 j_max (As := [.int (m5.1 236 (Int32.toNatClampNeg a1)), .int (m5.1 237 (Int32.toNatClampNeg a1))]) (rest := [.int y5, .int 0, .int 0, .ref 206]) mw_max (c_max hc8) (by decide) lk_14_375 rfl rfl (Nat.le_of_ble_eq_true rfl) (by decide +kernel) ?_
      show rf_V 5 (rf_sh w) K 0 0 132 ([(0, .ref 206), (1, .int a1), (2, .int a2), (3, .int a3), (4, .int a4)], [.int y8, .int y5, .int 0, .int 0, .ref 206], rf_MM w m8)
      refine rf_seg C [(.aload 0, 1), (.iload 1, 1), (.iconst 0, 1)] (pc' := 135) (S' := ([(0, .ref 206), (1, .int a1), (2, .int a2), (3, .int a3), (4, .int a4)], [.int 0, .int a1, .ref 206, .int y8, .int y5, .int 0, .int 0, .ref 206], rf_MM w m8)) (by decide +kernel) rfl trivial ?_
      obtain ⟨y9, m9, hc9, hg⟩ := rf_b_some hg
      refine rf_callv C rf_fit0 j_X14_spanOf (ci := 14) (As := [.int a1, .int 0]) (rest := [.int y8, .int y5, .int 0, .int 0, .ref 206]) mw_X14_spanOf (c_X14_spanOf hc9) (by decide) rfl (by decide) lk_14_685 rfl rfl (Nat.le_of_ble_eq_true rfl) (by decide +kernel) ?_
      show rf_V 5 (rf_sh w) K 0 0 138 ([(0, .ref 206), (1, .int a1), (2, .int a2), (3, .int a3), (4, .int a4)], [.int y9, .int y8, .int y5, .int 0, .int 0, .ref 206], rf_MM w m9)
      refine rf_seg C [(.aload 0, 1), (.iload 1, 1), (.iconst 1, 1)] (pc' := 141) (S' := ([(0, .ref 206), (1, .int a1), (2, .int a2), (3, .int a3), (4, .int a4)], [.int 1, .int a1, .ref 206, .int y9, .int y8, .int y5, .int 0, .int 0, .ref 206], rf_MM w m9)) (by decide +kernel) rfl trivial ?_
      obtain ⟨y10, m10, hc10, hg⟩ := rf_b_some hg
      refine rf_callv C rf_fit0 j_X14_spanOf (ci := 14) (As := [.int a1, .int 1]) (rest := [.int y9, .int y8, .int y5, .int 0, .int 0, .ref 206]) mw_X14_spanOf (c_X14_spanOf hc10) (by decide) rfl (by decide) lk_14_685 rfl rfl (Nat.le_of_ble_eq_true rfl) (by decide +kernel) ?_
      show rf_V 5 (rf_sh w) K 0 0 144 ([(0, .ref 206), (1, .int a1), (2, .int a2), (3, .int a3), (4, .int a4)], [.int y10, .int y9, .int y8, .int y5, .int 0, .int 0, .ref 206], rf_MM w m10)
      obtain ⟨m11, hc11, hg⟩ := rf_bv_some hg
      refine rf_callv C rf_fit0 j_X14_chains (ci := 14) (As := [.int 0, .int 0, .int y5, .int y8, .int y9, .int y10]) (rest := []) mw_X14_chains (c_X14_chains 16 hc11) (by decide) rfl (by decide) lk_14_838 rfl rfl (Nat.le_of_ble_eq_true rfl) (by decide +kernel) ?_
      show rf_V 5 (rf_sh w) K 0 0 147 ([(0, .ref 206), (1, .int a1), (2, .int a2), (3, .int a3), (4, .int a4)], [], rf_MM w m11)
      refine rf_seg C [(.aload 0, 1), (.invokeinterface 14 105, 3), (.iconst (-1), 1)] (pc' := 152) (S' := ([(0, .ref 206), (1, .int a1), (2, .int a2), (3, .int a3), (4, .int a4)], [.int ((-1)), .int (m11.1 206 105)], rf_MM w m11)) (by decide +kernel) rfl trivial ?_
      refine rf_icmp_ne C 5 157 (by decide +kernel) (fun hc => ?_) (fun hc => ?_)
      · replace hg := (if_neg hc).symm.trans hg
        refine rf_seg C [(.aload 0, 1), (.aload 0, 1), (.invokeinterface 14 105, 3), (.multianewarray 14 110, 3), (.aload 0, 1), (.aload 0, 1), (.invokeinterface 14 106, 3), (.multianewarray 14 111, 3), (.aload 0, 1), (.aload 0, 1), (.invokeinterface 14 107, 3), (.multianewarray 14 112, 3), (.iconst 0, 1), (.istore 4, 2)] (pc' := 184) (S' := ([(4, .int 0), (0, .ref 206), (1, .int a1), (2, .int a2), (3, .int a3)], [], rf_MM w (rf_i (rf_i (rf_i m11 206 110 (m11.1 206 105)) 206 111 ((rf_i m11 206 110 (m11.1 206 105)).1 206 106)) 206 112 ((rf_i (rf_i m11 206 110 (m11.1 206 105)) 206 111 ((rf_i m11 206 110 (m11.1 206 105)).1 206 106)).1 206 107)))) (by decide +kernel) rfl trivial ?_
        refine rf_few [1, 0] rfl ?_
        exact s_X14_chainOf_184 C hE rf_fuel 0 (rf_i (rf_i (rf_i m11 206 110 (m11.1 206 105)) 206 111 ((rf_i m11 206 110 (m11.1 206 105)).1 206 106)) 206 112 ((rf_i (rf_i m11 206 110 (m11.1 206 105)) 206 111 ((rf_i m11 206 110 (m11.1 206 105)).1 206 106)).1 206 107)) hg
      · replace hg := (if_pos hc).symm.trans hg
        refine rf_seg C [(.iconst 5, 1)] (pc' := 156) (S' := ([(0, .ref 206), (1, .int a1), (2, .int a2), (3, .int a3), (4, .int a4)], [.int 5], rf_MM w m11)) (by decide +kernel) rfl trivial ?_
        obtain rfl := Option.some.inj hg
        exact rf_iret C hE (by decide +kernel)
    · replace hg := (if_neg hc).symm.trans hg
      refine rf_seg C [(.iconst 7, 2)] (pc' := 71) (S' := ([(0, .ref 206), (1, .int a1), (2, .int a2), (3, .int a3), (4, .int a4)], [.int 7], rf_MM w m)) (by decide +kernel) rfl trivial ?_
      obtain rfl := Option.some.inj hg
      exact rf_iret C hE (by decide +kernel)
  · replace hg := (if_neg hc).symm.trans hg
    refine rf_seg C [(.aload 0, 1), (.iload 4, 2)] (pc' := 24) (S' := ([(0, .ref 206), (1, .int a1), (2, .int a2), (3, .int a3), (4, .int a4)], [.int a4, .ref 206], rf_MM w m)) (by decide +kernel) rfl trivial ?_
    obtain ⟨y12, m12, hc12, hg⟩ := rf_b_some hg
    refine rf_callv C rf_fit0 j_X14_isWell (ci := 14) (As := [.int a4]) (rest := []) mw_X14_isWell (c_X14_isWell hc12) (by decide) rfl (by decide) lk_14_722 rfl rfl (Nat.le_of_ble_eq_true rfl) (by decide +kernel) ?_
    show rf_V 5 (rf_sh w) K 0 0 27 ([(0, .ref 206), (1, .int a1), (2, .int a2), (3, .int a3), (4, .int a4)], [.int y12], rf_MM w m12)
    refine rf_if_ne C 6 33 (by decide +kernel) (fun hc => ?_) (fun hc => ?_)
    · replace hg := (if_neg hc).symm.trans hg
      obtain ⟨q13, hg⟩ := rf_g_some hg
      refine rf_seg C [(.aload 0, 1), (.invokeinterface 14 96, 3), (.aload 0, 1), (.invokeinterface 14 104, 3), (.iload 4, 2), (.iastore, 1), (.aload 0, 1), (.dup, 1), (.invokeinterface 14 104, 3), (.iconst 1, 1), (.iadd, 1), (.multianewarray 14 104, 3)] (pc' := 54) (S' := ([(0, .ref 206), (1, .int a1), (2, .int a2), (3, .int a3), (4, .int a4)], [], rf_MM w (rf_i (rf_i m12 271 (Int32.toNatClampNeg (m12.1 206 104)) a4) 206 104 (((rf_i m12 271 (Int32.toNatClampNeg (m12.1 206 104)) a4).1 206 104) + 1)))) (by decide +kernel) rfl (rf_in_of q13) ?_
      refine rf_few [0, 1, 2, 3, 4] rfl ?_
      exact s_X14_chainOf_54 C hE hr12 a1 a2 a3 a4 (rf_i (rf_i m12 271 (Int32.toNatClampNeg (m12.1 206 104)) a4) 206 104 (((rf_i m12 271 (Int32.toNatClampNeg (m12.1 206 104)) a4).1 206 104) + 1)) hg
    · replace hg := (if_pos hc).symm.trans hg
      refine rf_goto C 24 54 (by decide +kernel) ?_
      refine rf_few [0, 1, 2, 3, 4] rfl ?_
      exact s_X14_chainOf_54 C hE hr12 a1 a2 a3 a4 m12 hg
theorem s_X14_chainOf_12 {w : rf_w} {K : rf_K} {r : Int32 × rf_m} (C : rf_Ctx 14 cX14_chainOf 5 49 (rf_sh w) K) (hE : rf_End (some .int) K (rf_sh w) 0 0 (some (.int r.1)) (rf_MM w r.2)) (n : Nat) : ∀ (a1 : Int32) (a2 : Int32) (a3 : Int32) (a4 : Int32) (m : rf_m), g_X14_chainOf_12 w n a1 a2 a3 a4 m = some r → rf_V 5 (rf_sh w) K 0 0 12 ([(0, .ref 206), (1, .int a1), (2, .int a2), (3, .int a3), (4, .int a4)], [], rf_MM w m) := by
  induction n with
  | zero => intro a1 a2 a3 a4 m hg; cases hg
  | succ n ih => intro a1 a2 a3 a4 m hg; exact s_X14_chainOf_12_b C hE ih a1 a2 a3 a4 m hg
theorem c_X14_chainOf {w : rf_w} {m : rf_m} {a1 : Int32} {a2 : Int32} {a3 : Int32} {r : Int32 × rf_m} (hg : g_X14_chainOf w m a1 a2 a3 = some r) : rf_Con j_X14_chainOf 49 (rf_sh w) [.ref 206, .int a1, .int a2, .int a3] (rf_MM w m) (some (.int r.1)) (rf_MM w r.2) := by
  refine rf_con j_X14_chainOf 49 ⟨by decide +kernel, rfl, Nat.le_of_ble_eq_true rfl⟩ (fun K C hE => ?_)
  unfold g_X14_chainOf at hg
  show rf_V 5 (rf_sh w) K 0 0 0 ([(0, .ref 206), (1, .int a1), (2, .int a2), (3, .int a3)], [], rf_MM w m)
  refine rf_seg C [(.aload 0, 1)] (pc' := 1) (S' := ([(0, .ref 206), (1, .int a1), (2, .int a2), (3, .int a3)], [.ref 206], rf_MM w m)) (by decide +kernel) rfl trivial ?_
  obtain ⟨m0, hc0, hg⟩ := rf_bv_some hg
  refine rf_callv C rf_fit0 j_X14_allMeans (ci := 14) (As := []) (rest := []) mw_X14_allMeans (c_X14_allMeans hc0) (by decide) rfl (by decide) lk_14_713 rfl rfl (Nat.le_of_ble_eq_true rfl) (by decide +kernel) ?_
  show rf_V 5 (rf_sh w) K 0 0 4 ([(0, .ref 206), (1, .int a1), (2, .int a2), (3, .int a3)], [], rf_MM w m0)
  refine rf_seg C [(.aload 0, 1), (.iconst 0, 1), (.multianewarray 14 104, 3), (.iconst 0, 1), (.istore 4, 2)] (pc' := 12) (S' := ([(4, .int 0), (0, .ref 206), (1, .int a1), (2, .int a2), (3, .int a3)], [], rf_MM w (rf_i m0 206 104 0))) (by decide +kernel) rfl trivial ?_
  refine rf_few [1, 2, 3, 4, 0] rfl ?_
  exact s_X14_chainOf_12 C hE rf_fuel a1 a2 a3 0 (rf_i m0 206 104 0) hg
-- X14_chain
abbrev j_X14_chain : rf_J := (14, yX14_chain, cX14_chain, 5, (some .int))
theorem mw_X14_chain : rf_mv j_X14_chain (rf_R 14) 3 := ⟨⟨rf_mem 79 (by decide +kernel), rf_mem 79 (by decide +kernel), rf_mem 0 (by decide +kernel), rf_mem 79 (by decide +kernel)⟩, by decide +kernel, by decide⟩
def g_X14_chain (w : rf_w) (m : rf_m) (a1 : Int32) (a2 : Int32) (a3 : Int32) : Option (Int32 × rf_m) := rf_b (g_X14_isBase w (rf_i m 206 0 0) a1) fun y0 m0 => (if y0 = 0 then rf_b (g_X14_refused w m0 1) fun y1 m1 => some (y1, m1) else rf_b (g_X14_isMark w m0 a2) fun y2 m2 => (if y2 = 0 then rf_b (g_X14_refused w m2 1) fun y3 m3 => some (y3, m3) else rf_b (g_X14_isMark w m2 a3) fun y4 m4 => (if y4 = 0 then rf_b (g_X14_refused w m4 1) fun y5 m5 => some (y5, m5) else (if a2 = a3 then rf_b (g_X14_refused w m4 1) fun y9 m9 => some (y9, m9) else rf_b (g_X14_chainOf w m4 a1 a2 a3) fun y6 m6 => (if y6 ≤ 0 then rf_b (g_X14_done w m6 ((m6.1 206 112) - (m6.1 206 111))) fun y7 m7 => some (y7, m7) else rf_b (g_X14_refused w m6 y6) fun y8 m8 => some (y8, m8))))))
theorem c_X14_chain {w : rf_w} {m : rf_m} {a1 : Int32} {a2 : Int32} {a3 : Int32} {r : Int32 × rf_m} (hg : g_X14_chain w m a1 a2 a3 = some r) : rf_Con j_X14_chain 50 (rf_sh w) [.ref 206, .int a1, .int a2, .int a3] (rf_MM w m) (some (.int r.1)) (rf_MM w r.2) := by
  refine rf_con j_X14_chain 50 ⟨by decide +kernel, rfl, Nat.le_of_ble_eq_true rfl⟩ (fun K C hE => ?_)
  unfold g_X14_chain at hg
  show rf_V 5 (rf_sh w) K 0 0 0 ([(0, .ref 206), (1, .int a1), (2, .int a2), (3, .int a3)], [], rf_MM w m)
  refine rf_seg C [(.aload 0, 1), (.iconst 0, 1), (.multianewarray 14 0, 3), (.aload 0, 1), (.iload 1, 1)] (pc' := 7) (S' := ([(0, .ref 206), (1, .int a1), (2, .int a2), (3, .int a3)], [.int a1, .ref 206], rf_MM w (rf_i m 206 0 0))) (by decide +kernel) rfl trivial ?_
  obtain ⟨y0, m0, hc0, hg⟩ := rf_b_some hg
  refine rf_callv C rf_fit0 j_X14_isBase (ci := 14) (As := [.int a1]) (rest := []) mw_X14_isBase (c_X14_isBase hc0) (by decide) rfl (by decide) lk_14_672 rfl rfl (Nat.le_of_ble_eq_true rfl) (by decide +kernel) ?_
  show rf_V 5 (rf_sh w) K 0 0 10 ([(0, .ref 206), (1, .int a1), (2, .int a2), (3, .int a3)], [.int y0], rf_MM w m0)
  refine rf_if_eq C 24 34 (by decide +kernel) (fun hc => ?_) (fun hc => ?_)
  · replace hg := (if_pos hc).symm.trans hg
    refine rf_seg C [(.aload 0, 1), (.iconst 1, 1)] (pc' := 36) (S' := ([(0, .ref 206), (1, .int a1), (2, .int a2), (3, .int a3)], [.int 1, .ref 206], rf_MM w m0)) (by decide +kernel) rfl trivial ?_
    obtain ⟨y1, m1, hc1, hg⟩ := rf_b_some hg
    refine rf_callv C rf_fit0 j_X14_refused (ci := 14) (As := [.int 1]) (rest := []) mw_X14_refused (c_X14_refused hc1) (by decide) rfl (by decide) lk_14_353 rfl rfl (Nat.le_of_ble_eq_true rfl) (by decide +kernel) ?_
    show rf_V 5 (rf_sh w) K 0 0 39 ([(0, .ref 206), (1, .int a1), (2, .int a2), (3, .int a3)], [.int y1], rf_MM w m1)
    obtain rfl := Option.some.inj hg
    exact rf_iret C hE (by decide +kernel)
  · replace hg := (if_neg hc).symm.trans hg
    refine rf_seg C [(.aload 0, 1), (.iload 2, 1)] (pc' := 15) (S' := ([(0, .ref 206), (1, .int a1), (2, .int a2), (3, .int a3)], [.int a2, .ref 206], rf_MM w m0)) (by decide +kernel) rfl trivial ?_
    obtain ⟨y2, m2, hc2, hg⟩ := rf_b_some hg
    refine rf_callv C rf_fit0 j_X14_isMark (ci := 14) (As := [.int a2]) (rest := []) mw_X14_isMark (c_X14_isMark hc2) (by decide) rfl (by decide) lk_14_360 rfl rfl (Nat.le_of_ble_eq_true rfl) (by decide +kernel) ?_
    show rf_V 5 (rf_sh w) K 0 0 18 ([(0, .ref 206), (1, .int a1), (2, .int a2), (3, .int a3)], [.int y2], rf_MM w m2)
    refine rf_if_eq C 16 34 (by decide +kernel) (fun hc => ?_) (fun hc => ?_)
    · replace hg := (if_pos hc).symm.trans hg
      refine rf_seg C [(.aload 0, 1), (.iconst 1, 1)] (pc' := 36) (S' := ([(0, .ref 206), (1, .int a1), (2, .int a2), (3, .int a3)], [.int 1, .ref 206], rf_MM w m2)) (by decide +kernel) rfl trivial ?_
      obtain ⟨y3, m3, hc3, hg⟩ := rf_b_some hg
      refine rf_callv C rf_fit0 j_X14_refused (ci := 14) (As := [.int 1]) (rest := []) mw_X14_refused (c_X14_refused hc3) (by decide) rfl (by decide) lk_14_353 rfl rfl (Nat.le_of_ble_eq_true rfl) (by decide +kernel) ?_
      show rf_V 5 (rf_sh w) K 0 0 39 ([(0, .ref 206), (1, .int a1), (2, .int a2), (3, .int a3)], [.int y3], rf_MM w m3)
      obtain rfl := Option.some.inj hg
      exact rf_iret C hE (by decide +kernel)
    · replace hg := (if_neg hc).symm.trans hg
      refine rf_seg C [(.aload 0, 1), (.iload 3, 1)] (pc' := 23) (S' := ([(0, .ref 206), (1, .int a1), (2, .int a2), (3, .int a3)], [.int a3, .ref 206], rf_MM w m2)) (by decide +kernel) rfl trivial ?_
      obtain ⟨y4, m4, hc4, hg⟩ := rf_b_some hg
      refine rf_callv C rf_fit0 j_X14_isMark (ci := 14) (As := [.int a3]) (rest := []) mw_X14_isMark (c_X14_isMark hc4) (by decide) rfl (by decide) lk_14_360 rfl rfl (Nat.le_of_ble_eq_true rfl) (by decide +kernel) ?_
      show rf_V 5 (rf_sh w) K 0 0 26 ([(0, .ref 206), (1, .int a1), (2, .int a2), (3, .int a3)], [.int y4], rf_MM w m4)
      refine rf_if_eq C 8 34 (by decide +kernel) (fun hc => ?_) (fun hc => ?_)
      · replace hg := (if_pos hc).symm.trans hg
        refine rf_seg C [(.aload 0, 1), (.iconst 1, 1)] (pc' := 36) (S' := ([(0, .ref 206), (1, .int a1), (2, .int a2), (3, .int a3)], [.int 1, .ref 206], rf_MM w m4)) (by decide +kernel) rfl trivial ?_
        obtain ⟨y5, m5, hc5, hg⟩ := rf_b_some hg
        refine rf_callv C rf_fit0 j_X14_refused (ci := 14) (As := [.int 1]) (rest := []) mw_X14_refused (c_X14_refused hc5) (by decide) rfl (by decide) lk_14_353 rfl rfl (Nat.le_of_ble_eq_true rfl) (by decide +kernel) ?_
        show rf_V 5 (rf_sh w) K 0 0 39 ([(0, .ref 206), (1, .int a1), (2, .int a2), (3, .int a3)], [.int y5], rf_MM w m5)
        obtain rfl := Option.some.inj hg
        exact rf_iret C hE (by decide +kernel)
      · replace hg := (if_neg hc).symm.trans hg
        refine rf_seg C [(.iload 2, 1), (.iload 3, 1)] (pc' := 31) (S' := ([(0, .ref 206), (1, .int a1), (2, .int a2), (3, .int a3)], [.int a3, .int a2], rf_MM w m4)) (by decide +kernel) rfl trivial ?_
        refine rf_icmp_ne C 9 40 (by decide +kernel) (fun hc => ?_) (fun hc => ?_)
        · replace hg := (if_neg hc).symm.trans hg
          refine rf_seg C [(.aload 0, 1), (.iload 1, 1), (.iload 2, 1), (.iload 3, 1)] (pc' := 44) (S' := ([(0, .ref 206), (1, .int a1), (2, .int a2), (3, .int a3)], [.int a3, .int a2, .int a1, .ref 206], rf_MM w m4)) (by decide +kernel) rfl trivial ?_
          obtain ⟨y6, m6, hc6, hg⟩ := rf_b_some hg
          refine rf_callv C rf_fit0 j_X14_chainOf (ci := 14) (As := [.int a1, .int a2, .int a3]) (rest := []) mw_X14_chainOf (c_X14_chainOf hc6) (by decide) rfl (by decide) lk_14_851 rfl rfl (Nat.le_of_ble_eq_true rfl) (by decide +kernel) ?_
          show rf_V 5 (rf_sh w) K 0 0 47 ([(0, .ref 206), (1, .int a1), (2, .int a2), (3, .int a3)], [.int y6], rf_MM w m6)
          refine rf_seg C [(.istore 4, 2), (.iload 4, 2)] (pc' := 51) (S' := ([(4, .int y6), (0, .ref 206), (1, .int a1), (2, .int a2), (3, .int a3)], [.int y6], rf_MM w m6)) (by decide +kernel) rfl trivial ?_
          refine rf_if_le C 12 63 (by decide +kernel) (fun hc => ?_) (fun hc => ?_)
          · replace hg := (if_pos hc).symm.trans hg
            refine rf_seg C [(.aload 0, 1), (.aload 0, 1), (.invokeinterface 14 112, 3), (.aload 0, 1), (.invokeinterface 14 111, 3), (.isub, 1)] (pc' := 73) (S' := ([(4, .int y6), (0, .ref 206), (1, .int a1), (2, .int a2), (3, .int a3)], [.int ((m6.1 206 112) - (m6.1 206 111)), .ref 206], rf_MM w m6)) (by decide +kernel) rfl trivial ?_
            obtain ⟨y7, m7, hc7, hg⟩ := rf_b_some hg
            refine rf_callv C rf_fit0 j_X14_done (ci := 14) (As := [.int ((m6.1 206 112) - (m6.1 206 111))]) (rest := []) mw_X14_done (c_X14_done hc7) (by decide) rfl (by decide) lk_14_357 rfl rfl (Nat.le_of_ble_eq_true rfl) (by decide +kernel) ?_
            show rf_V 5 (rf_sh w) K 0 0 76 ([(4, .int y6), (0, .ref 206), (1, .int a1), (2, .int a2), (3, .int a3)], [.int y7], rf_MM w m7)
            obtain rfl := Option.some.inj hg
            exact rf_iret C hE (by decide +kernel)
          · replace hg := (if_neg hc).symm.trans hg
            refine rf_seg C [(.aload 0, 1), (.iload 4, 2)] (pc' := 57) (S' := ([(4, .int y6), (0, .ref 206), (1, .int a1), (2, .int a2), (3, .int a3)], [.int y6, .ref 206], rf_MM w m6)) (by decide +kernel) rfl trivial ?_
            obtain ⟨y8, m8, hc8, hg⟩ := rf_b_some hg
            refine rf_callv C rf_fit0 j_X14_refused (ci := 14) (As := [.int y6]) (rest := []) mw_X14_refused (c_X14_refused hc8) (by decide) rfl (by decide) lk_14_353 rfl rfl (Nat.le_of_ble_eq_true rfl) (by decide +kernel) ?_
            show rf_V 5 (rf_sh w) K 0 0 60 ([(4, .int y6), (0, .ref 206), (1, .int a1), (2, .int a2), (3, .int a3)], [.int y8], rf_MM w m8)
            refine rf_goto C 16 76 (by decide +kernel) ?_
            obtain rfl := Option.some.inj hg
            exact rf_iret C hE (by decide +kernel)
        · replace hg := (if_pos hc).symm.trans hg
          refine rf_seg C [(.aload 0, 1), (.iconst 1, 1)] (pc' := 36) (S' := ([(0, .ref 206), (1, .int a1), (2, .int a2), (3, .int a3)], [.int 1, .ref 206], rf_MM w m4)) (by decide +kernel) rfl trivial ?_
          obtain ⟨y9, m9, hc9, hg⟩ := rf_b_some hg
          refine rf_callv C rf_fit0 j_X14_refused (ci := 14) (As := [.int 1]) (rest := []) mw_X14_refused (c_X14_refused hc9) (by decide) rfl (by decide) lk_14_353 rfl rfl (Nat.le_of_ble_eq_true rfl) (by decide +kernel) ?_
          show rf_V 5 (rf_sh w) K 0 0 39 ([(0, .ref 206), (1, .int a1), (2, .int a2), (3, .int a3)], [.int y9], rf_MM w m9)
          obtain rfl := Option.some.inj hg
          exact rf_iret C hE (by decide +kernel)
-- X14_close
abbrev j_X14_close : rf_J := (14, yX14_close, cX14_close, 4, (some .int))
theorem mw_X14_close : rf_mv j_X14_close (rf_R 14) 2 := ⟨⟨rf_mem 82 (by decide +kernel), rf_mem 82 (by decide +kernel), rf_mem 0 (by decide +kernel), rf_mem 82 (by decide +kernel)⟩, by decide +kernel, by decide⟩
def g_X14_close (w : rf_w) (m : rf_m) (a1 : Int32) (a2 : Int32) : Option (Int32 × rf_m) := rf_b (g_X14_isBase w (rf_i m 206 0 0) a1) fun y0 m0 => (if y0 = 0 then rf_b (g_X14_refused w m0 1) fun y1 m1 => some (y1, m1) else rf_b (g_X14_isBase w m0 a2) fun y2 m2 => (if y2 = 0 then rf_b (g_X14_refused w m2 1) fun y3 m3 => some (y3, m3) else rf_g (rf_in a2 6) (rf_g (rf_in a2 6) (rf_b (g_X14_isOf w m2 a1 (m2.1 236 (Int32.toNatClampNeg a2)) (m2.1 237 (Int32.toNatClampNeg a2))) fun y6 m6 => (if y6 = 0 then rf_g (rf_in a2 6) (rf_g (rf_in a2 6) (rf_b (g_X14_chainOf w m6 a1 (m6.1 236 (Int32.toNatClampNeg a2)) (m6.1 237 (Int32.toNatClampNeg a2))) fun y9 m9 => (if y9 ≤ 0 then rf_b (g_X14_spanOf w m9 a2 1) fun y10 m10 => rf_b (g_X14_spanOf w m10 a2 0) fun y11 m11 => rf_b (g_max w m11 ((m9.1 206 111) - y10) (y11 - (m11.1 206 112))) fun y12 m12 => rf_b (g_max w m12 0 y12) fun y13 m13 => rf_b (g_X14_done w m13 y13) fun y14 m14 => some (y14, m14) else rf_b (g_X14_refused w m9 y9) fun y15 m15 => some (y15, m15)))) else rf_b (g_X14_refused w m6 1) fun y16 m16 => some (y16, m16))))))
theorem c_X14_close {w : rf_w} {m : rf_m} {a1 : Int32} {a2 : Int32} {r : Int32 × rf_m} (hg : g_X14_close w m a1 a2 = some r) : rf_Con j_X14_close 50 (rf_sh w) [.ref 206, .int a1, .int a2] (rf_MM w m) (some (.int r.1)) (rf_MM w r.2) := by
  refine rf_con j_X14_close 50 ⟨by decide +kernel, rfl, Nat.le_of_ble_eq_true rfl⟩ (fun K C hE => ?_)
  unfold g_X14_close at hg
  show rf_V 4 (rf_sh w) K 0 0 0 ([(0, .ref 206), (1, .int a1), (2, .int a2)], [], rf_MM w m)
  refine rf_seg C [(.aload 0, 1), (.iconst 0, 1), (.multianewarray 14 0, 3), (.aload 0, 1), (.iload 1, 1)] (pc' := 7) (S' := ([(0, .ref 206), (1, .int a1), (2, .int a2)], [.int a1, .ref 206], rf_MM w (rf_i m 206 0 0))) (by decide +kernel) rfl trivial ?_
  obtain ⟨y0, m0, hc0, hg⟩ := rf_b_some hg
  refine rf_callv C rf_fit0 j_X14_isBase (ci := 14) (As := [.int a1]) (rest := []) mw_X14_isBase (c_X14_isBase hc0) (by decide) rfl (by decide) lk_14_672 rfl rfl (Nat.le_of_ble_eq_true rfl) (by decide +kernel) ?_
  show rf_V 4 (rf_sh w) K 0 0 10 ([(0, .ref 206), (1, .int a1), (2, .int a2)], [.int y0], rf_MM w m0)
  refine rf_if_eq C 31 41 (by decide +kernel) (fun hc => ?_) (fun hc => ?_)
  · replace hg := (if_pos hc).symm.trans hg
    refine rf_seg C [(.aload 0, 1), (.iconst 1, 1)] (pc' := 43) (S' := ([(0, .ref 206), (1, .int a1), (2, .int a2)], [.int 1, .ref 206], rf_MM w m0)) (by decide +kernel) rfl trivial ?_
    obtain ⟨y1, m1, hc1, hg⟩ := rf_b_some hg
    refine rf_callv C rf_fit0 j_X14_refused (ci := 14) (As := [.int 1]) (rest := []) mw_X14_refused (c_X14_refused hc1) (by decide) rfl (by decide) lk_14_353 rfl rfl (Nat.le_of_ble_eq_true rfl) (by decide +kernel) ?_
    show rf_V 4 (rf_sh w) K 0 0 46 ([(0, .ref 206), (1, .int a1), (2, .int a2)], [.int y1], rf_MM w m1)
    obtain rfl := Option.some.inj hg
    exact rf_iret C hE (by decide +kernel)
  · replace hg := (if_neg hc).symm.trans hg
    refine rf_seg C [(.aload 0, 1), (.iload 2, 1)] (pc' := 15) (S' := ([(0, .ref 206), (1, .int a1), (2, .int a2)], [.int a2, .ref 206], rf_MM w m0)) (by decide +kernel) rfl trivial ?_
    obtain ⟨y2, m2, hc2, hg⟩ := rf_b_some hg
    refine rf_callv C rf_fit0 j_X14_isBase (ci := 14) (As := [.int a2]) (rest := []) mw_X14_isBase (c_X14_isBase hc2) (by decide) rfl (by decide) lk_14_672 rfl rfl (Nat.le_of_ble_eq_true rfl) (by decide +kernel) ?_
    show rf_V 4 (rf_sh w) K 0 0 18 ([(0, .ref 206), (1, .int a1), (2, .int a2)], [.int y2], rf_MM w m2)
    refine rf_if_eq C 23 41 (by decide +kernel) (fun hc => ?_) (fun hc => ?_)
    · replace hg := (if_pos hc).symm.trans hg
      refine rf_seg C [(.aload 0, 1), (.iconst 1, 1)] (pc' := 43) (S' := ([(0, .ref 206), (1, .int a1), (2, .int a2)], [.int 1, .ref 206], rf_MM w m2)) (by decide +kernel) rfl trivial ?_
      obtain ⟨y3, m3, hc3, hg⟩ := rf_b_some hg
      refine rf_callv C rf_fit0 j_X14_refused (ci := 14) (As := [.int 1]) (rest := []) mw_X14_refused (c_X14_refused hc3) (by decide) rfl (by decide) lk_14_353 rfl rfl (Nat.le_of_ble_eq_true rfl) (by decide +kernel) ?_
      show rf_V 4 (rf_sh w) K 0 0 46 ([(0, .ref 206), (1, .int a1), (2, .int a2)], [.int y3], rf_MM w m3)
      obtain rfl := Option.some.inj hg
      exact rf_iret C hE (by decide +kernel)
    · replace hg := (if_neg hc).symm.trans hg
      obtain ⟨q4, hg⟩ := rf_g_some hg
      obtain ⟨q5, hg⟩ := rf_g_some hg
      refine rf_seg C [(.aload 0, 1), (.iload 1, 1), (.aload 0, 1), (.invokeinterface 14 57, 3), (.iload 2, 1), (.iaload, 1), (.aload 0, 1), (.invokeinterface 14 58, 3), (.iload 2, 1), (.iaload, 1)] (pc' := 35) (S' := ([(0, .ref 206), (1, .int a1), (2, .int a2)], [.int (m2.1 237 (Int32.toNatClampNeg a2)), .int (m2.1 236 (Int32.toNatClampNeg a2)), .int a1, .ref 206], rf_MM w m2)) (by decide +kernel) rfl (by exact ⟨(rf_in_of q4), (rf_in_of q5)⟩) ?_
      obtain ⟨y6, m6, hc6, hg⟩ := rf_b_some hg
      refine rf_callv C rf_fit0 j_X14_isOf (ci := 14) (As := [.int a1, .int (m2.1 236 (Int32.toNatClampNeg a2)), .int (m2.1 237 (Int32.toNatClampNeg a2))]) (rest := []) mw_X14_isOf (c_X14_isOf hc6) (by decide) rfl (by decide) lk_14_669 rfl rfl (Nat.le_of_ble_eq_true rfl) (by decide +kernel) ?_
      show rf_V 4 (rf_sh w) K 0 0 38 ([(0, .ref 206), (1, .int a1), (2, .int a2)], [.int y6], rf_MM w m6)
      refine rf_if_eq C 9 47 (by decide +kernel) (fun hc => ?_) (fun hc => ?_)
      · replace hg := (if_pos hc).symm.trans hg
        obtain ⟨q7, hg⟩ := rf_g_some hg
        obtain ⟨q8, hg⟩ := rf_g_some hg
        refine rf_seg C [(.aload 0, 1), (.iload 1, 1), (.aload 0, 1), (.invokeinterface 14 57, 3), (.iload 2, 1), (.iaload, 1), (.aload 0, 1), (.invokeinterface 14 58, 3), (.iload 2, 1), (.iaload, 1)] (pc' := 61) (S' := ([(0, .ref 206), (1, .int a1), (2, .int a2)], [.int (m6.1 237 (Int32.toNatClampNeg a2)), .int (m6.1 236 (Int32.toNatClampNeg a2)), .int a1, .ref 206], rf_MM w m6)) (by decide +kernel) rfl (by exact ⟨(rf_in_of q7), (rf_in_of q8)⟩) ?_
        obtain ⟨y9, m9, hc9, hg⟩ := rf_b_some hg
        refine rf_callv C rf_fit0 j_X14_chainOf (ci := 14) (As := [.int a1, .int (m6.1 236 (Int32.toNatClampNeg a2)), .int (m6.1 237 (Int32.toNatClampNeg a2))]) (rest := []) mw_X14_chainOf (c_X14_chainOf hc9) (by decide) rfl (by decide) lk_14_851 rfl rfl (Nat.le_of_ble_eq_true rfl) (by decide +kernel) ?_
        show rf_V 4 (rf_sh w) K 0 0 64 ([(0, .ref 206), (1, .int a1), (2, .int a2)], [.int y9], rf_MM w m9)
        refine rf_seg C [(.istore 3, 1), (.iload 3, 1)] (pc' := 66) (S' := ([(3, .int y9), (0, .ref 206), (1, .int a1), (2, .int a2)], [.int y9], rf_MM w m9)) (by decide +kernel) rfl trivial ?_
        refine rf_if_le C 9 75 (by decide +kernel) (fun hc => ?_) (fun hc => ?_)
        · replace hg := (if_pos hc).symm.trans hg
          refine rf_seg C [(.aload 0, 1), (.iconst 0, 1), (.aload 0, 1), (.invokeinterface 14 111, 3), (.aload 0, 1), (.iload 2, 1), (.iconst 1, 1)] (pc' := 84) (S' := ([(3, .int y9), (0, .ref 206), (1, .int a1), (2, .int a2)], [.int 1, .int a2, .ref 206, .int (m9.1 206 111), .int 0, .ref 206], rf_MM w m9)) (by decide +kernel) rfl trivial ?_
          obtain ⟨y10, m10, hc10, hg⟩ := rf_b_some hg
          refine rf_callv C rf_fit0 j_X14_spanOf (ci := 14) (As := [.int a2, .int 1]) (rest := [.int (m9.1 206 111), .int 0, .ref 206]) mw_X14_spanOf (c_X14_spanOf hc10) (by decide) rfl (by decide) lk_14_685 rfl rfl (Nat.le_of_ble_eq_true rfl) (by decide +kernel) ?_
          show rf_V 4 (rf_sh w) K 0 0 87 ([(3, .int y9), (0, .ref 206), (1, .int a1), (2, .int a2)], [.int y10, .int (m9.1 206 111), .int 0, .ref 206], rf_MM w m10)
          refine rf_seg C [(.isub, 1), (.aload 0, 1), (.iload 2, 1), (.iconst 0, 1)] (pc' := 91) (S' := ([(3, .int y9), (0, .ref 206), (1, .int a1), (2, .int a2)], [.int 0, .int a2, .ref 206, .int ((m9.1 206 111) - y10), .int 0, .ref 206], rf_MM w m10)) (by decide +kernel) rfl trivial ?_
          obtain ⟨y11, m11, hc11, hg⟩ := rf_b_some hg
          refine rf_callv C rf_fit0 j_X14_spanOf (ci := 14) (As := [.int a2, .int 0]) (rest := [.int ((m9.1 206 111) - y10), .int 0, .ref 206]) mw_X14_spanOf (c_X14_spanOf hc11) (by decide) rfl (by decide) lk_14_685 rfl rfl (Nat.le_of_ble_eq_true rfl) (by decide +kernel) ?_
          show rf_V 4 (rf_sh w) K 0 0 94 ([(3, .int y9), (0, .ref 206), (1, .int a1), (2, .int a2)], [.int y11, .int ((m9.1 206 111) - y10), .int 0, .ref 206], rf_MM w m11)
          refine rf_seg C [(.aload 0, 1), (.invokeinterface 14 112, 3), (.isub, 1)] (pc' := 99) (S' := ([(3, .int y9), (0, .ref 206), (1, .int a1), (2, .int a2)], [.int (y11 - (m11.1 206 112)), .int ((m9.1 206 111) - y10), .int 0, .ref 206], rf_MM w m11)) (by decide +kernel) rfl trivial ?_
          obtain ⟨y12, m12, hc12, hg⟩ := rf_b_some hg
          refine rf_calls C rf_fit0 j_max (As := [.int ((m9.1 206 111) - y10), .int (y11 - (m11.1 206 112))]) (rest := [.int 0, .ref 206]) mw_max (c_max hc12) (by decide) lk_14_375 rfl rfl (Nat.le_of_ble_eq_true rfl) (by decide +kernel) ?_
          show rf_V 4 (rf_sh w) K 0 0 102 ([(3, .int y9), (0, .ref 206), (1, .int a1), (2, .int a2)], [.int y12, .int 0, .ref 206], rf_MM w m12)
          obtain ⟨y13, m13, hc13, hg⟩ := rf_b_some hg
          refine rf_calls C rf_fit0 j_max (As := [.int 0, .int y12]) (rest := [.ref 206]) mw_max (c_max hc13) (by decide) lk_14_375 rfl rfl (Nat.le_of_ble_eq_true rfl) (by decide +kernel) ?_
          show rf_V 4 (rf_sh w) K 0 0 105 ([(3, .int y9), (0, .ref 206), (1, .int a1), (2, .int a2)], [.int y13, .ref 206], rf_MM w m13)
          obtain ⟨y14, m14, hc14, hg⟩ := rf_b_some hg
          refine rf_callv C rf_fit0 j_X14_done (ci := 14) (As := [.int y13]) (rest := []) mw_X14_done (c_X14_done hc14) (by decide) rfl (by decide) lk_14_357 rfl rfl (Nat.le_of_ble_eq_true rfl) (by decide +kernel) ?_
          show rf_V 4 (rf_sh w) K 0 0 108 ([(3, .int y9), (0, .ref 206), (1, .int a1), (2, .int a2)], [.int y14], rf_MM w m14)
          obtain rfl := Option.some.inj hg
          exact rf_iret C hE (by decide +kernel)
        · replace hg := (if_neg hc).symm.trans hg
          refine rf_seg C [(.aload 0, 1), (.iload 3, 1)] (pc' := 71) (S' := ([(3, .int y9), (0, .ref 206), (1, .int a1), (2, .int a2)], [.int y9, .ref 206], rf_MM w m9)) (by decide +kernel) rfl trivial ?_
          obtain ⟨y15, m15, hc15, hg⟩ := rf_b_some hg
          refine rf_callv C rf_fit0 j_X14_refused (ci := 14) (As := [.int y9]) (rest := []) mw_X14_refused (c_X14_refused hc15) (by decide) rfl (by decide) lk_14_353 rfl rfl (Nat.le_of_ble_eq_true rfl) (by decide +kernel) ?_
          show rf_V 4 (rf_sh w) K 0 0 74 ([(3, .int y9), (0, .ref 206), (1, .int a1), (2, .int a2)], [.int y15], rf_MM w m15)
          obtain rfl := Option.some.inj hg
          exact rf_iret C hE (by decide +kernel)
      · replace hg := (if_neg hc).symm.trans hg
        refine rf_seg C [(.aload 0, 1), (.iconst 1, 1)] (pc' := 43) (S' := ([(0, .ref 206), (1, .int a1), (2, .int a2)], [.int 1, .ref 206], rf_MM w m6)) (by decide +kernel) rfl trivial ?_
        obtain ⟨y16, m16, hc16, hg⟩ := rf_b_some hg
        refine rf_callv C rf_fit0 j_X14_refused (ci := 14) (As := [.int 1]) (rest := []) mw_X14_refused (c_X14_refused hc16) (by decide) rfl (by decide) lk_14_353 rfl rfl (Nat.le_of_ble_eq_true rfl) (by decide +kernel) ?_
        show rf_V 4 (rf_sh w) K 0 0 46 ([(0, .ref 206), (1, .int a1), (2, .int a2)], [.int y16], rf_MM w m16)
        obtain rfl := Option.some.inj hg
        exact rf_iret C hE (by decide +kernel)
