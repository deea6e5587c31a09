/-! methods as functions, and their contracts (written by wip/tool/gen.py) -/
-- X14_sineOf
abbrev j_X14_sineOf : rf_J := (14, yX14_sineOf, cX14_sineOf, 5, (some .int))
theorem mw_X14_sineOf : rf_ms j_X14_sineOf 1 := ⟨⟨rf_mem 75 (by decide +kernel), rf_mem 0 (by decide +kernel), rf_mem 75 (by decide +kernel)⟩, by decide +kernel, by decide⟩
def g_X14_sineOf (w : rf_w) (m : rf_m) (a0 : Int32) : Option (Int32 × rf_m) := rf_vl ((Int32.toInt64 (a0 / 10)) * (648000 - (Int32.toInt64 (a0 / 10)))) fun x0 => rf_g (rf_nzl (524880000000 - x0)) (some (Int64.toInt32 ((4000000 * x0) / (524880000000 - x0)), m))
theorem c_X14_sineOf {w : rf_w} {m : rf_m} {a0 : Int32} {r : Int32 × rf_m} (hg : g_X14_sineOf w m a0 = some r) : rf_Con j_X14_sineOf 1 (rf_sh w) [.int a0] (rf_MM w m) (some (.int r.1)) (rf_MM w r.2) := by
  refine rf_con j_X14_sineOf 1 ⟨by decide +kernel, rfl, Nat.le_of_ble_eq_true rfl⟩ (fun K C hE => ?_)
  unfold g_X14_sineOf at hg
  show rf_V 5 (rf_sh w) K 0 0 0 ([(0, .int a0)], [], rf_MM w m)
  refine rf_seg C [(.iload 0, 1), (.iconst 10, 2), (.idiv, 1), (.i2l, 1), (.lstore 1, 1), (.lload 1, 1), (.goto_w 648000, 3), (.lload 1, 1), (.lsub, 1), (.lmul, 1)] (pc' := 13) (S' := ([(1, .long (Int32.toInt64 (a0 / 10))), (0, .int a0)], [.long ((Int32.toInt64 (a0 / 10)) * (648000 - (Int32.toInt64 (a0 / 10))))], rf_MM w m)) (by decide +kernel) rfl (rf_nz_of (by decide)) ?_
  obtain ⟨x0, hx0, hg⟩ := rf_vl_some hg
  refine rf_vl_top hx0 ?_
  obtain ⟨q1, hg⟩ := rf_g_some hg
  refine rf_seg C [(.lstore 3, 1), (.goto_w 4000000, 3), (.lload 3, 1), (.lmul, 1), (.goto_w 524880000000, 3), (.lload 3, 1), (.lsub, 1), (.ldiv, 1), (.l2i, 1)] (pc' := 26) (S' := ([(3, .long x0), (1, .long (Int32.toInt64 (a0 / 10))), (0, .int a0)], [.int (Int64.toInt32 ((4000000 * x0) / (524880000000 - x0)))], rf_MM w m)) (by decide +kernel) rfl (rf_nzl_of q1) ?_
  obtain rfl := Option.some.inj hg
  exact rf_iret C hE (by decide +kernel)
-- X14_sine
abbrev j_X14_sine : rf_J := (14, yX14_sine, cX14_sine, 2, (some .int))
theorem mw_X14_sine : rf_mv j_X14_sine (rf_R 14) 1 := ⟨⟨rf_mem 75 (by decide +kernel), rf_mem 75 (by decide +kernel), rf_mem 0 (by decide +kernel), rf_mem 75 (by decide +kernel)⟩, by decide +kernel, by decide⟩
def g_X14_sine (w : rf_w) (m : rf_m) (a1 : Int32) : Option (Int32 × rf_m) := rf_b (g_X14_in w (rf_i m 206 0 0) a1 0 6480000) fun y0 m0 => (if y0 = 0 then some ((-1), m0) else rf_b (g_X14_sineOf w m0 a1) fun y1 m1 => some (y1, m1))
theorem c_X14_sine {w : rf_w} {m : rf_m} {a1 : Int32} {r : Int32 × rf_m} (hg : g_X14_sine w m a1 = some r) : rf_Con j_X14_sine 2 (rf_sh w) [.ref 206, .int a1] (rf_MM w m) (some (.int r.1)) (rf_MM w r.2) := by
  refine rf_con j_X14_sine 2 ⟨by decide +kernel, rfl, Nat.le_of_ble_eq_true rfl⟩ (fun K C hE => ?_)
  unfold g_X14_sine at hg
  show rf_V 2 (rf_sh w) K 0 0 0 ([(0, .ref 206), (1, .int a1)], [], rf_MM w m)
  refine rf_seg C [(.aload 0, 1), (.iconst 0, 1), (.multianewarray 14 0, 3), (.iload 1, 1), (.iconst 0, 1), (.iconst 6480000, 3)] (pc' := 10) (S' := ([(0, .ref 206), (1, .int a1)], [.int 6480000, .int 0, .int a1], rf_MM w (rf_i m 206 0 0))) (by decide +kernel) rfl trivial ?_
  obtain ⟨y0, m0, hc0, hg⟩ := rf_b_some hg
  refine rf_calls C rf_fit0 j_X14_in (As := [.int a1, .int 0, .int 6480000]) (rest := []) mw_X14_in (c_X14_in hc0) (by decide) lk_14_345 rfl rfl (Nat.le_of_ble_eq_true rfl) (by decide +kernel) ?_
  show rf_V 2 (rf_sh w) K 0 0 13 ([(0, .ref 206), (1, .int a1)], [.int y0], rf_MM w m0)
  refine rf_if_eq C 10 23 (by decide +kernel) (fun hc => ?_) (fun hc => ?_)
  · replace hg := (if_pos hc).symm.trans hg
    refine rf_seg C [(.iconst (-1), 1)] (pc' := 24) (S' := ([(0, .ref 206), (1, .int a1)], [.int ((-1))], rf_MM w m0)) (by decide +kernel) rfl trivial ?_
    obtain rfl := Option.some.inj hg
    exact rf_iret C hE (by decide +kernel)
  · replace hg := (if_neg hc).symm.trans hg
    refine rf_seg C [(.iload 1, 1)] (pc' := 17) (S' := ([(0, .ref 206), (1, .int a1)], [.int a1], rf_MM w m0)) (by decide +kernel) rfl trivial ?_
    obtain ⟨y1, m1, hc1, hg⟩ := rf_b_some hg
    refine rf_calls C rf_fit0 j_X14_sineOf (As := [.int a1]) (rest := []) mw_X14_sineOf (c_X14_sineOf hc1) (by decide) lk_14_803 rfl rfl (Nat.le_of_ble_eq_true rfl) (by decide +kernel) ?_
    show rf_V 2 (rf_sh w) K 0 0 20 ([(0, .ref 206), (1, .int a1)], [.int y1], rf_MM w m1)
    refine rf_goto C 4 24 (by decide +kernel) ?_
    obtain rfl := Option.some.inj hg
    exact rf_iret C hE (by decide +kernel)
-- X14_allSines
abbrev j_X14_allSines : rf_J := (14, yX14_allSines, cX14_allSines, 2, none)
theorem mw_X14_allSines : rf_mv j_X14_allSines (rf_R 14) 0 := ⟨⟨rf_mem 80 (by decide +kernel), rf_mem 80 (by decide +kernel), rf_mem 0 (by decide +kernel), rf_mem 80 (by decide +kernel)⟩, by decide +kernel, by decide⟩
def g_X14_allSines_146 (w : rf_w) (rec2 : Int32 → rf_m → Option (rf_m)) (a1 : Int32) (m : rf_m) : Option (rf_m) := rec2 (a1 + 1) m
def g_X14_allSines_145 (w : rf_w) (rec2 : Int32 → rf_m → Option (rf_m)) (a1 : Int32) (s1 : Int32) (s2 : Int32) (m : rf_m) : Option (rf_m) := rf_g (rf_in s1 80) (g_X14_allSines_146 w rec2 a1 (rf_i m 269 (Int32.toNatClampNeg s1) s2))
def g_X14_allSines_128 (w : rf_w) (rec2 : Int32 → rf_m → Option (rf_m)) (a1 : Int32) (s1 : Int32) (m : rf_m) : Option (rf_m) := rf_b (g_X14_sineOf w m (m.1 206 37)) fun y0 m0 => rf_b (g_X14_sineOf w m0 (m0.1 206 38)) fun y1 m1 => rf_b (g_max w m1 y0 y1) fun y2 m2 => g_X14_allSines_145 w rec2 a1 s1 y2 m2
def g_X14_allSines_52 (w : rf_w) (rec2 : Int32 → rf_m → Option (rf_m)) (a1 : Int32) (s1 : Int32) (s2 : Int32) (m : rf_m) : Option (rf_m) := rf_g (rf_in s1 80) (rf_g (rf_in a1 80) ((if ((rf_i m 270 (Int32.toNatClampNeg s1) (vp_nar .boolean s2)).1 270 (Int32.toNatClampNeg a1)) = 0 then g_X14_allSines_146 w rec2 a1 (rf_i m 270 (Int32.toNatClampNeg s1) (vp_nar .boolean s2)) else rf_b (g_X14_sineOf w (rf_i m 270 (Int32.toNatClampNeg s1) (vp_nar .boolean s2)) ((rf_i m 270 (Int32.toNatClampNeg s1) (vp_nar .boolean s2)).1 206 37)) fun y2 m2 => rf_b (g_X14_sineOf w m2 (m2.1 206 38)) fun y3 m3 => rf_b (g_min w m3 y2 y3) fun y4 m4 => rf_g (rf_in a1 80) ((if 324000 < (((rf_i m4 268 (Int32.toNatClampNeg a1) y4).1 206 37) / 10) then g_X14_allSines_128 w rec2 a1 a1 (rf_i m4 268 (Int32.toNatClampNeg a1) y4) else (if (((rf_i m4 268 (Int32.toNatClampNeg a1) y4).1 206 38) / 10) < 324000 then g_X14_allSines_128 w rec2 a1 a1 (rf_i m4 268 (Int32.toNatClampNeg a1) y4) else rf_b (g_X14_sineOf w (rf_i m4 268 (Int32.toNatClampNeg a1) y4) 3240000) fun y6 m6 => g_X14_allSines_145 w rec2 a1 a1 y6 m6))))))
def g_X14_allSines_51 (w : rf_w) (rec2 : Int32 → rf_m → Option (rf_m)) (a1 : Int32) (s1 : Int32) (m : rf_m) : Option (rf_m) := g_X14_allSines_52 w rec2 a1 s1 0 m
def g_X14_allSines_2_b (w : rf_w) (rec2 : Int32 → rf_m → Option (rf_m)) (a1 : Int32) (m : rf_m) : Option (rf_m) := (if (m.1 206 16) ≤ a1 then some m else rf_bv (g_X14_now w m a1) fun m0 => (if (m0.1 206 34) ≤ 0 then g_X14_allSines_51 w rec2 a1 a1 m0 else (if (m0.1 206 37) < 36000 then g_X14_allSines_51 w rec2 a1 a1 m0 else (if 6444000 < (m0.1 206 38) then g_X14_allSines_51 w rec2 a1 a1 m0 else g_X14_allSines_52 w rec2 a1 a1 1 m0))))
def g_X14_allSines_2 (w : rf_w) : Nat → Int32 → rf_m → Option (rf_m)
  | 0, _, _ => none
  | n + 1, a1, m => g_X14_allSines_2_b w (g_X14_allSines_2 w n) a1 m
def g_X14_allSines (w : rf_w) (m : rf_m) : Option (rf_m) := g_X14_allSines_2 w rf_fuel 0 m
theorem s_X14_allSines_146 {w : rf_w} {K : rf_K} {r : rf_m} (C : rf_Ctx 14 cX14_allSines 2 8 (rf_sh w) K) (hE : rf_End none K (rf_sh w) 0 0 none (rf_MM w r)) {rec2 : Int32 → rf_m → Option (rf_m)} (hr2 : ∀ (a1 : Int32) (m : rf_m), rec2 a1 m = some r → rf_V 2 (rf_sh w) K 0 0 2 ([(0, .ref 206), (1, .int a1)], [], rf_MM w m)) (a1 : Int32) (m : rf_m) (hg : g_X14_allSines_146 w rec2 a1 m = some r) : rf_V 2 (rf_sh w) K 0 0 146 ([(0, .ref 206), (1, .int a1)], [], rf_MM w m) := by
  unfold g_X14_allSines_146 at hg
  refine rf_seg C [(.iinc 1 1, 3)] (pc' := 149) (S' := ([(1, .int (a1 + 1)), (0, .ref 206)], [], rf_MM w m)) (by decide +kernel) rfl trivial ?_
  refine rf_goto C (-147) 2 (by decide +kernel) ?_
  refine rf_few [1, 0] rfl ?_
  exact hr2 (a1 + 1) m hg
theorem s_X14_allSines_145 {w : rf_w} {K : rf_K} {r : rf_m} (C : rf_Ctx 14 cX14_allSines 2 8 (rf_sh w) K) (hE : rf_End none K (rf_sh w) 0 0 none (rf_MM w r)) {rec2 : Int32 → rf_m → Option (rf_m)} (hr2 : ∀ (a1 : Int32) (m : rf_m), rec2 a1 m = some r → rf_V 2 (rf_sh w) K 0 0 2 ([(0, .ref 206), (1, .int a1)], [], rf_MM w m)) (a1 : Int32) (s1 : Int32) (s2 : Int32) (m : rf_m) (hg : g_X14_allSines_145 w rec2 a1 s1 s2 m = some r) : rf_V 2 (rf_sh w) K 0 0 145 ([(0, .ref 206), (1, .int a1)], [.int s2, .int s1, .ref 269], rf_MM w m) := by
  unfold g_X14_allSines_145 at hg
  obtain ⟨q0, hg⟩ := rf_g_some hg
  refine rf_seg C [(.iastore, 1)] (pc' := 146) (S' := ([(0, .ref 206), (1, .int a1)], [], rf_MM w (rf_i m 269 (Int32.toNatClampNeg s1) s2))) (by decide +kernel) rfl (rf_in_of q0) ?_
  refine rf_few [0, 1] rfl ?_
  exact s_X14_allSines_146 C hE hr2 a1 (rf_i m 269 (Int32.toNatClampNeg s1) s2) hg
theorem s_X14_allSines_128 {w : rf_w} {K : rf_K} {r : rf_m} (C : rf_Ctx 14 cX14_allSines 2 8 (rf_sh w) K) (hE : rf_End none K (rf_sh w) 0 0 none (rf_MM w r)) {rec2 : Int32 → rf_m → Option (rf_m)} (hr2 : ∀ (a1 : Int32) (m : rf_m), rec2 a1 m = some r → rf_V 2 (rf_sh w) K 0 0 2 ([(0, .ref 206), (1, .int a1)], [], rf_MM w m)) (a1 : Int32) (s1 : Int32) (m : rf_m) (hg : g_X14_allSines_128 w rec2 a1 s1 m = some r) : rf_V 2 (rf_sh w) K 0 0 128 ([(0, .ref 206), (1, .int a1)], [.int s1, .ref 269], rf_MM w m) := by
  unfold g_X14_allSines_128 at hg
  refine rf_seg C [(.aload 0, 1), (.invokeinterface 14 37, 3)] (pc' := 132) (S' := ([(0, .ref 206), (1, .int a1)], [.int (m.1 206 37), .int s1, .ref 269], rf_MM w m)) (by decide +kernel) rfl trivial ?_
  obtain ⟨y0, m0, hc0, hg⟩ := rf_b_some hg
  refine rf_calls C rf_fit0 j_X14_sineOf (As := [.int (m.1 206 37)]) (rest := [.int s1, .ref 269]) mw_X14_sineOf (c_X14_sineOf hc0) (by decide) lk_14_803 rfl rfl (Nat.le_of_ble_eq_true rfl) (by decide +kernel) ?_
  show rf_V 2 (rf_sh w) K 0 0 135 ([(0, .ref 206), (1, .int a1)], [.int y0, .int s1, .ref 269], rf_MM w m0)
  refine rf_seg C [(.aload 0, 1), (.invokeinterface 14 38, 3)] (pc' := 139) (S' := ([(0, .ref 206), (1, .int a1)], [.int (m0.1 206 38), .int y0, .int s1, .ref 269], rf_MM w m0)) (by decide +kernel) rfl trivial ?_
  obtain ⟨y1, m1, hc1, hg⟩ := rf_b_some hg
  refine rf_calls C rf_fit0 j_X14_sineOf (As := [.int (m0.1 206 38)]) (rest := [.int y0, .int s1, .ref 269]) mw_X14_sineOf (c_X14_sineOf hc1) (by decide) lk_14_803 rfl rfl (Nat.le_of_ble_eq_true rfl) (by decide +kernel) ?_
  show rf_V 2 (rf_sh w) K 0 0 142 ([(0, .ref 206), (1, .int a1)], [.int y1, .int y0, .int s1, .ref 269], rf_MM w m1)
  obtain ⟨y2, m2, hc2, hg⟩ := rf_b_some hg
  refine rf_calls C rf_fit0 j_max (As := [.int y0, .int y1]) (rest := [.int s1, .ref 269]) mw_max (c_max hc2) (by decide) lk_14_375 rfl rfl (Nat.le_of_ble_eq_true rfl) (by decide +kernel) ?_
  show rf_V 2 (rf_sh w) K 0 0 145 ([(0, .ref 206), (1, .int a1)], [.int y2, .int s1, .ref 269], rf_MM w m2)
  refine rf_few [0, 1] rfl ?_
  exact s_X14_allSines_145 C hE hr2 a1 s1 y2 m2 hg
theorem s_X14_allSines_52 {w : rf_w} {K : rf_K} {r : rf_m} (C : rf_Ctx 14 cX14_allSines 2 8 (rf_sh w) K) (hE : rf_End none K (rf_sh w) 0 0 none (rf_MM w r)) {rec2 : Int32 → rf_m → Option (rf_m)} (hr2 : ∀ (a1 : Int32) (m : rf_m), rec2 a1 m = some r → rf_V 2 (rf_sh w) K 0 0 2 ([(0, .ref 206), (1, .int a1)], [], rf_MM w m)) (a1 : Int32) (s1 : Int32) (s2 : Int32) (m : rf_m) (hg : g_X14_allSines_52 w rec2 a1 s1 s2 m = some r) : rf_V 2 (rf_sh w) K 0 0 52 ([(0, .ref 206), (1, .int a1)], [.int s2, .int s1, .ref 270], rf_MM w m) := by
  unfold g_X14_allSines_52 at hg
  obtain ⟨q0, hg⟩ := rf_g_some hg
  obtain ⟨q1, hg⟩ := rf_g_some hg
  refine rf_seg C [(.bastore, 1), (.aload 0, 1), (.invokeinterface 14 95, 3), (.iload 1, 1), (.baload, 1)] (pc' := 59) (S' := ([(0, .ref 206), (1, .int a1)], [.int ((rf_i m 270 (Int32.toNatClampNeg s1) (vp_nar .boolean s2)).1 270 (Int32.toNatClampNeg a1))], rf_MM w (rf_i m 270 (Int32.toNatClampNeg s1) (vp_nar .boolean s2)))) (by decide +kernel) rfl (by exact ⟨(rf_in_of q0), (rf_in_of q1)⟩) ?_
  refine rf_if_ne C 6 65 (by decide +kernel) (fun hc => ?_) (fun hc => ?_)
  · replace hg := (if_neg hc).symm.trans hg
    refine rf_seg C [(.aload 0, 1), (.invokeinterface 14 93, 3), (.iload 1, 1), (.aload 0, 1), (.invokeinterface 14 37, 3)] (pc' := 74) (S' := ([(0, .ref 206), (1, .int a1)], [.int ((rf_i m 270 (Int32.toNatClampNeg s1) (vp_nar .boolean s2)).1 206 37), .int a1, .ref 268], rf_MM w (rf_i m 270 (Int32.toNatClampNeg s1) (vp_nar .boolean s2)))) (by decide +kernel) rfl trivial ?_
    obtain ⟨y2, m2, hc2, hg⟩ := rf_b_some hg
    refine rf_calls C rf_fit0 j_X14_sineOf (As := [.int ((rf_i m 270 (Int32.toNatClampNeg s1) (vp_nar .boolean s2)).1 206 37)]) (rest := [.int a1, .ref 268]) mw_X14_sineOf (c_X14_sineOf hc2) (by decide) lk_14_803 rfl rfl (Nat.le_of_ble_eq_true rfl) (by decide +kernel) ?_
    show rf_V 2 (rf_sh w) K 0 0 77 ([(0, .ref 206), (1, .int a1)], [.int y2, .int a1, .ref 268], rf_MM w m2)
    refine rf_seg C [(.aload 0, 1), (.invokeinterface 14 38, 3)] (pc' := 81) (S' := ([(0, .ref 206), (1, .int a1)], [.int (m2.1 206 38), .int y2, .int a1, .ref 268], rf_MM w m2)) (by decide +kernel) rfl trivial ?_
    obtain ⟨y3, m3, hc3, hg⟩ := rf_b_some hg
    refine rf_calls C rf_fit0 j_X14_sineOf (As := [.int (m2.1 206 38)]) (rest := [.int y2, .int a1, .ref 268]) mw_X14_sineOf (c_X14_sineOf hc3) (by decide) lk_14_803 rfl rfl (Nat.le_of_ble_eq_true rfl) (by decide +kernel) ?_
    show rf_V 2 (rf_sh w) K 0 0 84 ([(0, .ref 206), (1, .int a1)], [.int y3, .int y2, .int a1, .ref 268], rf_MM w m3)
    obtain ⟨y4, m4, hc4, hg⟩ := rf_b_some hg
    refine rf_calls C rf_fit0 j_min (As := [.int y2, .int y3]) (rest := [.int a1, .ref 268]) mw_min (c_min hc4) (by decide) lk_14_443 rfl rfl (Nat.le_of_ble_eq_true rfl) (by decide +kernel) ?_
    show rf_V 2 (rf_sh w) K 0 0 87 ([(0, .ref 206), (1, .int a1)], [.int y4, .int a1, .ref 268], rf_MM w m4)
    obtain ⟨q5, hg⟩ := rf_g_some hg
    refine rf_seg C [(.iastore, 1), (.aload 0, 1), (.invokeinterface 14 94, 3), (.iload 1, 1), (.aload 0, 1), (.invokeinterface 14 37, 3), (.iconst 10, 2), (.idiv, 1), (.iconst 324000, 3)] (pc' := 103) (S' := ([(0, .ref 206), (1, .int a1)], [.int 324000, .int (((rf_i m4 268 (Int32.toNatClampNeg a1) y4).1 206 37) / 10), .int a1, .ref 269], rf_MM w (rf_i m4 268 (Int32.toNatClampNeg a1) y4))) (by decide +kernel) rfl (by exact ⟨(rf_in_of q5), (rf_nz_of (by decide))⟩) ?_
    refine rf_icmp_gt C 25 128 (by decide +kernel) (fun hc => ?_) (fun hc => ?_)
    · replace hg := (if_pos hc).symm.trans hg
      refine rf_few [0, 1] rfl ?_
      exact s_X14_allSines_128 C hE hr2 a1 a1 (rf_i m4 268 (Int32.toNatClampNeg a1) y4) hg
    · replace hg := (if_neg hc).symm.trans hg
      refine rf_seg C [(.aload 0, 1), (.invokeinterface 14 38, 3), (.iconst 10, 2), (.idiv, 1), (.iconst 324000, 3)] (pc' := 116) (S' := ([(0, .ref 206), (1, .int a1)], [.int 324000, .int (((rf_i m4 268 (Int32.toNatClampNeg a1) y4).1 206 38) / 10), .int a1, .ref 269], rf_MM w (rf_i m4 268 (Int32.toNatClampNeg a1) y4))) (by decide +kernel) rfl (rf_nz_of (by decide)) ?_
      refine rf_icmp_lt C 12 128 (by decide +kernel) (fun hc => ?_) (fun hc => ?_)
      · replace hg := (if_pos hc).symm.trans hg
        refine rf_few [0, 1] rfl ?_
        exact s_X14_allSines_128 C hE hr2 a1 a1 (rf_i m4 268 (Int32.toNatClampNeg a1) y4) hg
      · replace hg := (if_neg hc).symm.trans hg
        refine rf_seg C [(.iconst 3240000, 3)] (pc' := 122) (S' := ([(0, .ref 206), (1, .int a1)], [.int 3240000, .int a1, .ref 269], rf_MM w (rf_i m4 268 (Int32.toNatClampNeg a1) y4))) (by decide +kernel) rfl trivial ?_
        obtain ⟨y6, m6, hc6, hg⟩ := rf_b_some hg
        refine rf_calls C rf_fit0 j_X14_sineOf (As := [.int 3240000]) (rest := [.int a1, .ref 269]) mw_X14_sineOf (c_X14_sineOf hc6) (by decide) lk_14_803 rfl rfl (Nat.le_of_ble_eq_true rfl) (by decide +kernel) ?_
        show rf_V 2 (rf_sh w) K 0 0 125 ([(0, .ref 206), (1, .int a1)], [.int y6, .int a1, .ref 269], rf_MM w m6)
        refine rf_goto C 20 145 (by decide +kernel) ?_
        refine rf_few [0, 1] rfl ?_
        exact s_X14_allSines_145 C hE hr2 a1 a1 y6 m6 hg
  · replace hg := (if_pos hc).symm.trans hg
    refine rf_goto C 84 146 (by decide +kernel) ?_
    refine rf_few [0, 1] rfl ?_
    exact s_X14_allSines_146 C hE hr2 a1 (rf_i m 270 (Int32.toNatClampNeg s1) (vp_nar .boolean s2)) hg
theorem s_X14_allSines_51 {w : rf_w} {K : rf_K} {r : rf_m} (C : rf_Ctx 14 cX14_allSines 2 8 (rf_sh w) K) (hE : rf_End none K (rf_sh w) 0 0 none (rf_MM w r)) {rec2 : Int32 → rf_m → Option (rf_m)} (hr2 : ∀ (a1 : Int32) (m : rf_m), rec2 a1 m = some r → rf_V 2 (rf_sh w) K 0 0 2 ([(0, .ref 206), (1, .int a1)], [], rf_MM w m)) (a1 : Int32) (s1 : Int32) (m : rf_m) (hg : g_X14_allSines_51 w rec2 a1 s1 m = some r) : rf_V 2 (rf_sh w) K 0 0 51 ([(0, .ref 206), (1, .int a1)], [.int s1, .ref 270], rf_MM w m) := by
  unfold g_X14_allSines_51 at hg
  refine rf_seg C [(.iconst 0, 1)] (pc' := 52) (S' := ([(0, .ref 206), (1, .int a1)], [.int 0, .int s1, .ref 270], rf_MM w m)) (by decide +kernel) rfl trivial ?_
  refine rf_few [0, 1] rfl ?_
  exact s_X14_allSines_52 C hE hr2 a1 s1 0 m hg
theorem s_X14_allSines_2_b {w : rf_w} {K : rf_K} {r : rf_m} (C : rf_Ctx 14 cX14_allSines 2 8 (rf_sh w) K) (hE : rf_End none K (rf_sh w) 0 0 none (rf_MM w r)) {rec2 : Int32 → rf_m → Option (rf_m)} (hr2 : ∀ (a1 : Int32) (m : rf_m), rec2 a1 m = some r → rf_V 2 (rf_sh w) K 0 0 2 ([(0, .ref 206), (1, .int a1)], [], rf_MM w m)) (a1 : Int32) (m : rf_m) (hg : g_X14_allSines_2_b w rec2 a1 m = some r) : rf_V 2 (rf_sh w) K 0 0 2 ([(0, .ref 206), (1, .int a1)], [], rf_MM w m) := by
  unfold g_X14_allSines_2_b at hg
  refine rf_seg C [(.iload 1, 1), (.aload 0, 1), (.invokeinterface 14 16, 3)] (pc' := 7) (S' := ([(0, .ref 206), (1, .int a1)], [.int (m.1 206 16), .int a1], rf_MM w m)) (by decide +kernel) rfl trivial ?_
  refine rf_icmp_ge C 145 152 (by decide +kernel) (fun hc => ?_) (fun hc => ?_)
  · replace hg := (if_pos hc).symm.trans hg
    obtain rfl := Option.some.inj hg
    exact rf_vret C hE (by decide +kernel)
  · replace hg := (if_neg hc).symm.trans hg
    refine rf_seg C [(.aload 0, 1), (.iload 1, 1)] (pc' := 12) (S' := ([(0, .ref 206), (1, .int a1)], [.int a1, .ref 206], rf_MM w m)) (by decide +kernel) rfl trivial ?_
    obtain ⟨m0, hc0, hg⟩ := rf_bv_some hg
    refine rf_callv C rf_fit0 j_X14_now (ci := 14) (As := [.int a1]) (rest := []) mw_X14_now (c_X14_now hc0) (by decide) rfl (by decide) lk_14_469 rfl rfl (Nat.le_of_ble_eq_true rfl) (by decide +kernel) ?_
    show rf_V 2 (rf_sh w) K 0 0 15 ([(0, .ref 206), (1, .int a1)], [], rf_MM w m0)
    refine rf_seg C [(.aload 0, 1), (.invokeinterface 14 95, 3), (.iload 1, 1), (.aload 0, 1), (.invokeinterface 14 34, 3)] (pc' := 24) (S' := ([(0, .ref 206), (1, .int a1)], [.int (m0.1 206 34), .int a1, .ref 270], rf_MM w m0)) (by decide +kernel) rfl trivial ?_
    refine rf_if_le C 27 51 (by decide +kernel) (fun hc => ?_) (fun hc => ?_)
    · replace hg := (if_pos hc).symm.trans hg
      refine rf_few [0, 1] rfl ?_
      exact s_X14_allSines_51 C hE hr2 a1 a1 m0 hg
    · replace hg := (if_neg hc).symm.trans hg
      refine rf_seg C [(.aload 0, 1), (.invokeinterface 14 37, 3), (.iconst 36000, 3)] (pc' := 34) (S' := ([(0, .ref 206), (1, .int a1)], [.int 36000, .int (m0.1 206 37), .int a1, .ref 270], rf_MM w m0)) (by decide +kernel) rfl trivial ?_
      refine rf_icmp_lt C 17 51 (by decide +kernel) (fun hc => ?_) (fun hc => ?_)
      · replace hg := (if_pos hc).symm.trans hg
        refine rf_few [0, 1] rfl ?_
        exact s_X14_allSines_51 C hE hr2 a1 a1 m0 hg
      · replace hg := (if_neg hc).symm.trans hg
        refine rf_seg C [(.aload 0, 1), (.invokeinterface 14 38, 3), (.iconst 6444000, 3)] (pc' := 44) (S' := ([(0, .ref 206), (1, .int a1)], [.int 6444000, .int (m0.1 206 38), .int a1, .ref 270], rf_MM w m0)) (by decide +kernel) rfl trivial ?_
        refine rf_icmp_gt C 7 51 (by decide +kernel) (fun hc => ?_) (fun hc => ?_)
        · replace hg := (if_pos hc).symm.trans hg
          refine rf_few [0, 1] rfl ?_
          exact s_X14_allSines_51 C hE hr2 a1 a1 m0 hg
        · replace hg := (if_neg hc).symm.trans hg
          refine rf_seg C [(.iconst 1, 1)] (pc' := 48) (S' := ([(0, .ref 206), (1, .int a1)], [.int 1, .int a1, .ref 270], rf_MM w m0)) (by decide +kernel) rfl trivial ?_
          refine rf_goto C 4 52 (by decide +kernel) ?_
          refine rf_few [0, 1] rfl ?_
          exact s_X14_allSines_52 C hE hr2 a1 a1 1 m0 hg
theorem s_X14_allSines_2 {w : rf_w} {K : rf_K} {r : rf_m} (C : rf_Ctx 14 cX14_allSines 2 8 (rf_sh w) K) (hE : rf_End none K (rf_sh w) 0 0 none (rf_MM w r)) (n : Nat) : ∀ (a1 : Int32) (m : rf_m), g_X14_allSines_2 w n a1 m = some r → rf_V 2 (rf_sh w) K 0 0 2 ([(0, .ref 206), (1, .int a1)], [], rf_MM w m) := by
  induction n with
  | zero => intro a1 m hg; cases hg
  | succ n ih => intro a1 m hg; exact s_X14_allSines_2_b C hE ih a1 m hg
theorem c_X14_allSines {w : rf_w} {m : rf_m} {r : rf_m} (hg : g_X14_allSines w m = some r) : rf_Con j_X14_allSines 8 (rf_sh w) [.ref 206] (rf_MM w m) none (rf_MM w r) := by
  refine rf_con j_X14_allSines 8 ⟨by decide +kernel, rfl, Nat.le_of_ble_eq_true rfl⟩ (fun K C hE => ?_)
  unfold g_X14_allSines at hg
  show rf_V 2 (rf_sh w) K 0 0 0 ([(0, .ref 206)], [], rf_MM w m)
  refine rf_seg C [(.iconst 0, 1), (.istore 1, 1)] (pc' := 2) (S' := ([(1, .int 0), (0, .ref 206)], [], rf_MM w m)) (by decide +kernel) rfl trivial ?_
  refine rf_few [1, 0] rfl ?_
  exact s_X14_allSines_2 C hE rf_fuel 0 m hg
-- X14_carries
abbrev j_X14_carries : rf_J := (14, yX14_carries, cX14_carries, 2, (some .boolean))
theorem mw_X14_carries : rf_mv j_X14_carries (rf_R 14) 1 := ⟨⟨rf_mem 80 (by decide +kernel), rf_mem 80 (by decide +kernel), rf_mem 0 (by decide +kernel), rf_mem 80 (by decide +kernel)⟩, by decide +kernel, by decide⟩
def g_X14_carries (w : rf_w) (m : rf_m) (a1 : Int32) : Option (Int32 × rf_m) := rf_g (rf_in (3 * a1) 90) (rf_g (rf_in (m.1 243 (Int32.toNatClampNeg (3 * a1))) 80) ((if (m.1 270 (Int32.toNatClampNeg (m.1 243 (Int32.toNatClampNeg (3 * a1))))) = 0 then some (0, m) else rf_g (rf_in ((3 * a1) + 1) 90) (rf_g (rf_in (m.1 243 (Int32.toNatClampNeg ((3 * a1) + 1))) 80) ((if (m.1 270 (Int32.toNatClampNeg (m.1 243 (Int32.toNatClampNeg ((3 * a1) + 1))))) = 0 then some (0, m) else rf_g (rf_in ((3 * a1) + 2) 90) (rf_g (rf_in (m.1 243 (Int32.toNatClampNeg ((3 * a1) + 2))) 80) ((if (m.1 270 (Int32.toNatClampNeg (m.1 243 (Int32.toNatClampNeg ((3 * a1) + 2))))) = 0 then some (0, m) else some (1, m))))))))))
theorem c_X14_carries {w : rf_w} {m : rf_m} {a1 : Int32} {r : Int32 × rf_m} (hg : g_X14_carries w m a1 = some r) : rf_Con j_X14_carries 1 (rf_sh w) [.ref 206, .int a1] (rf_MM w m) (some (.int r.1)) (rf_MM w r.2) := by
  refine rf_con j_X14_carries 1 ⟨by decide +kernel, rfl, Nat.le_of_ble_eq_true rfl⟩ (fun K C hE => ?_)
  unfold g_X14_carries at hg
  show rf_V 2 (rf_sh w) K 0 0 0 ([(0, .ref 206), (1, .int a1)], [], rf_MM w m)
  obtain ⟨q0, hg⟩ := rf_g_some hg
  obtain ⟨q1, hg⟩ := rf_g_some hg
  refine rf_seg C [(.aload 0, 1), (.invokeinterface 14 95, 3), (.aload 0, 1), (.invokeinterface 14 66, 3), (.iconst 3, 1), (.iload 1, 1), (.imul, 1), (.iaload, 1), (.baload, 1)] (pc' := 13) (S' := ([(0, .ref 206), (1, .int a1)], [.int (m.1 270 (Int32.toNatClampNeg (m.1 243 (Int32.toNatClampNeg (3 * a1)))))], rf_MM w m)) (by decide +kernel) rfl (by exact ⟨(rf_in_of q0), (rf_in_of q1)⟩) ?_
  refine rf_if_eq C 43 56 (by decide +kernel) (fun hc => ?_) (fun hc => ?_)
  · replace hg := (if_pos hc).symm.trans hg
    refine rf_seg C [(.iconst 0, 1)] (pc' := 57) (S' := ([(0, .ref 206), (1, .int a1)], [.int 0], rf_MM w m)) (by decide +kernel) rfl trivial ?_
    obtain rfl := Option.some.inj hg
    exact rf_zret C hE (by decide) (by decide +kernel)
  · replace hg := (if_neg hc).symm.trans hg
    obtain ⟨q2, hg⟩ := rf_g_some hg
    obtain ⟨q3, hg⟩ := rf_g_some hg
    refine rf_seg C [(.aload 0, 1), (.invokeinterface 14 95, 3), (.aload 0, 1), (.invokeinterface 14 66, 3), (.iconst 3, 1), (.iload 1, 1), (.imul, 1), (.iconst 1, 1), (.iadd, 1), (.iaload, 1), (.baload, 1)] (pc' := 31) (S' := ([(0, .ref 206), (1, .int a1)], [.int (m.1 270 (Int32.toNatClampNeg (m.1 243 (Int32.toNatClampNeg ((3 * a1) + 1)))))], rf_MM w m)) (by decide +kernel) rfl (by exact ⟨(rf_in_of q2), (rf_in_of q3)⟩) ?_
    refine rf_if_eq C 25 56 (by decide +kernel) (fun hc => ?_) (fun hc => ?_)
    · replace hg := (if_pos hc).symm.trans hg
      refine rf_seg C [(.iconst 0, 1)] (pc' := 57) (S' := ([(0, .ref 206), (1, .int a1)], [.int 0], rf_MM w m)) (by decide +kernel) rfl trivial ?_
      obtain rfl := Option.some.inj hg
      exact rf_zret C hE (by decide) (by decide +kernel)
    · replace hg := (if_neg hc).symm.trans hg
      obtain ⟨q4, hg⟩ := rf_g_some hg
      obtain ⟨q5, hg⟩ := rf_g_some hg
      refine rf_seg C [(.aload 0, 1), (.invokeinterface 14 95, 3), (.aload 0, 1), (.invokeinterface 14 66, 3), (.iconst 3, 1), (.iload 1, 1), (.imul, 1), (.iconst 2, 1), (.iadd, 1), (.iaload, 1), (.baload, 1)] (pc' := 49) (S' := ([(0, .ref 206), (1, .int a1)], [.int (m.1 270 (Int32.toNatClampNeg (m.1 243 (Int32.toNatClampNeg ((3 * a1) + 2)))))], rf_MM w m)) (by decide +kernel) rfl (by exact ⟨(rf_in_of q4), (rf_in_of q5)⟩) ?_
      refine rf_if_eq C 7 56 (by decide +kernel) (fun hc => ?_) (fun hc => ?_)
      · replace hg := (if_pos hc).symm.trans hg
        refine rf_seg C [(.iconst 0, 1)] (pc' := 57) (S' := ([(0, .ref 206), (1, .int a1)], [.int 0], rf_MM w m)) (by decide +kernel) rfl trivial ?_
        obtain rfl := Option.some.inj hg
        exact rf_zret C hE (by decide) (by decide +kernel)
      · replace hg := (if_neg hc).symm.trans hg
        refine rf_seg C [(.iconst 1, 1)] (pc' := 53) (S' := ([(0, .ref 206), (1, .int a1)], [.int 1], rf_MM w m)) (by decide +kernel) rfl trivial ?_
        refine rf_goto C 4 57 (by decide +kernel) ?_
        obtain rfl := Option.some.inj hg
        exact rf_zret C hE (by decide) (by decide +kernel)
-- X14_opposite
abbrev j_X14_opposite : rf_J := (14, yX14_opposite, cX14_opposite, 6, (some .int))
theorem mw_X14_opposite : rf_mv j_X14_opposite (rf_R 14) 3 := ⟨⟨rf_mem 81 (by decide +kernel), rf_mem 81 (by decide +kernel), rf_mem 0 (by decide +kernel), rf_mem 81 (by decide +kernel)⟩, by decide +kernel, by decide⟩
def g_X14_opposite_3_b (w : rf_w) (rec3 : Int32 → Int32 → Int32 → Int32 → rf_m → Option (Int32 × rf_m)) (a1 : Int32) (a2 : Int32) (a3 : Int32) (a4 : Int32) (m : rf_m) : Option (Int32 × rf_m) := (if 3 ≤ a4 then some ((-1), m) else rf_g (rf_in ((3 * a1) + a4) 90) (rf_vi (m.1 243 (Int32.toNatClampNeg ((3 * a1) + a4))) fun x1 => rf_b (g_X14_isBetween w m x1 a2 a3) fun y2 m2 => (if y2 = 0 then rec3 a1 a2 a3 (a4 + 1) m2 else some (a4, m2))))
def g_X14_opposite_3 (w : rf_w) : Nat → Int32 → Int32 → Int32 → Int32 → rf_m → Option (Int32 × rf_m)
  | 0, _, _, _, _, _ => none
  | n + 1, a1, a2, a3, a4, m => g_X14_opposite_3_b w (g_X14_opposite_3 w n) a1 a2 a3 a4 m
def g_X14_opposite (w : rf_w) (m : rf_m) (a1 : Int32) (a2 : Int32) (a3 : Int32) : Option (Int32 × rf_m) := g_X14_opposite_3 w rf_fuel a1 a2 a3 0 m
theorem s_X14_opposite_3_b {w : rf_w} {K : rf_K} {r : Int32 × rf_m} (C : rf_Ctx 14 cX14_opposite 6 2 (rf_sh w) K) (hE : rf_End (some .int) K (rf_sh w) 0 0 (some (.int r.1)) (rf_MM w r.2)) {rec3 : Int32 → Int32 → Int32 → Int32 → rf_m → Option (Int32 × rf_m)} (hr3 : ∀ (a1 : Int32) (a2 : Int32) (a3 : Int32) (a4 : Int32) (m : rf_m), rec3 a1 a2 a3 a4 m = some r → rf_V 6 (rf_sh w) K 0 0 3 ([(0, .ref 206), (1, .int a1), (2, .int a2), (3, .int a3), (4, .int a4)], [], rf_MM w m)) (a1 : Int32) (a2 : Int32) (a3 : Int32) (a4 : Int32) (m : rf_m) (hg : g_X14_opposite_3_b w rec3 a1 a2 a3 a4 m = some r) : rf_V 6 (rf_sh w) K 0 0 3 ([(0, .ref 206), (1, .int a1), (2, .int a2), (3, .int a3), (4, .int a4)], [], rf_MM w m) := by
  unfold g_X14_opposite_3_b at hg
  refine rf_seg C [(.iload 4, 2), (.iconst 3, 1)] (pc' := 6) (S' := ([(0, .ref 206), (1, .int a1), (2, .int a2), (3, .int a3), (4, .int a4)], [.int 3, .int a4], rf_MM w m)) (by decide +kernel) rfl trivial ?_
  refine rf_icmp_ge C 36 42 (by decide +kernel) (fun hc => ?_) (fun hc => ?_)
  · replace hg := (if_pos hc).symm.trans hg
    refine rf_seg C [(.iconst (-1), 1)] (pc' := 43) (S' := ([(0, .ref 206), (1, .int a1), (2, .int a2), (3, .int a3), (4, .int a4)], [.int ((-1))], rf_MM w m)) (by decide +kernel) rfl trivial ?_
    obtain rfl := Option.some.inj hg
    exact rf_iret C hE (by decide +kernel)
  · replace hg := (if_neg hc).symm.trans hg
    obtain ⟨q0, hg⟩ := rf_g_some hg
    refine rf_seg C [(.aload 0, 1), (.invokeinterface 14 66, 3), (.iconst 3, 1), (.iload 1, 1), (.imul, 1), (.iload 4, 2), (.iadd, 1), (.iaload, 1)] (pc' := 20) (S' := ([(0, .ref 206), (1, .int a1), (2, .int a2), (3, .int a3), (4, .int a4)], [.int (m.1 243 (Int32.toNatClampNeg ((3 * a1) + a4)))], rf_MM w m)) (by decide +kernel) rfl (rf_in_of q0) ?_
    obtain ⟨x1, hx1, hg⟩ := rf_vi_some hg
    refine rf_vi_top hx1 ?_
    refine rf_seg C [(.istore 5, 2), (.aload 0, 1), (.iload 5, 2), (.iload 2, 1), (.iload 3, 1)] (pc' := 27) (S' := ([(5, .int x1), (0, .ref 206), (1, .int a1), (2, .int a2), (3, .int a3), (4, .int a4)], [.int a3, .int a2, .int x1, .ref 206], rf_MM w m)) (by decide +kernel) rfl trivial ?_
    obtain ⟨y2, m2, hc2, hg⟩ := rf_b_some hg
    refine rf_callv C rf_fit0 j_X14_isBetween (ci := 14) (As := [.int x1, .int a2, .int a3]) (rest := []) mw_X14_isBetween (c_X14_isBetween hc2) (by decide) rfl (by decide) lk_14_692 rfl rfl (Nat.le_of_ble_eq_true rfl) (by decide +kernel) ?_
    show rf_V 6 (rf_sh w) K 0 0 30 ([(5, .int x1), (0, .ref 206), (1, .int a1), (2, .int a2), (3, .int a3), (4, .int a4)], [.int y2], rf_MM w m2)
    refine rf_if_eq C 6 36 (by decide +kernel) (fun hc => ?_) (fun hc => ?_)
    · replace hg := (if_pos hc).symm.trans hg
      refine rf_seg C [(.iinc 4 1, 3)] (pc' := 39) (S' := ([(4, .int (a4 + 1)), (5, .int x1), (0, .ref 206), (1, .int a1), (2, .int a2), (3, .int a3)], [], rf_MM w m2)) (by decide +kernel) rfl trivial ?_
      refine rf_goto C (-36) 3 (by decide +kernel) ?_
      refine rf_few [2, 3, 4, 5, 0] rfl ?_
      exact hr3 a1 a2 a3 (a4 + 1) m2 hg
    · replace hg := (if_neg hc).symm.trans hg
      refine rf_seg C [(.iload 4, 2)] (pc' := 35) (S' := ([(5, .int x1), (0, .ref 206), (1, .int a1), (2, .int a2), (3, .int a3), (4, .int a4)], [.int a4], rf_MM w m2)) (by decide +kernel) rfl trivial ?_
      obtain rfl := Option.some.inj hg
      exact rf_iret C hE (by decide +kernel)
theorem s_X14_opposite_3 {w : rf_w} {K : rf_K} {r : Int32 × rf_m} (C : rf_Ctx 14 cX14_opposite 6 2 (rf_sh w) K) (hE : rf_End (some .int) K (rf_sh w) 0 0 (some (.int r.1)) (rf_MM w r.2)) (n : Nat) : ∀ (a1 : Int32) (a2 : Int32) (a3 : Int32) (a4 : Int32) (m : rf_m), g_X14_opposite_3 w n a1 a2 a3 a4 m = some r → rf_V 6 (rf_sh w) K 0 0 3 ([(0, .ref 206), (1, .int a1), (2, .int a2), (3, .int a3), (4, .int a4)], [], rf_MM w m) := by
  induction n with
  | zero => intro a1 a2 a3 a4 m hg; cases hg
  | succ n ih => intro a1 a2 a3 a4 m hg; exact s_X14_opposite_3_b C hE ih a1 a2 a3 a4 m hg
theorem c_X14_opposite {w : rf_w} {m : rf_m} {a1 : Int32} {a2 : Int32} {a3 : Int32} {r : Int32 × rf_m} (hg : g_X14_opposite w m a1 a2 a3 = some r) : rf_Con j_X14_opposite 2 (rf_sh w) [.ref 206, .int a1, .int a2, .int a3] (rf_MM w m) (some (.int r.1)) (rf_MM w r.2) := by
  refine rf_con j_X14_opposite 2 ⟨by decide +kernel, rfl, Nat.le_of_ble_eq_true rfl⟩ (fun K C hE => ?_)
  unfold g_X14_opposite at hg
  show rf_V 6 (rf_sh w) K 0 0 0 ([(0, .ref 206), (1, .int a1), (2, .int a2), (3, .int a3)], [], rf_MM w m)
  refine rf_seg C [(.iconst 0, 1), (.istore 4, 2)] (pc' := 3) (S' := ([(4, .int 0), (0, .ref 206), (1, .int a1), (2, .int a2), (3, .int a3)], [], rf_MM w m)) (by decide +kernel) rfl trivial ?_
  refine rf_few [1, 2, 3, 4, 0] rfl ?_
  exact s_X14_opposite_3 C hE rf_fuel a1 a2 a3 0 m hg
-- X14_isBetter
abbrev j_X14_isBetter : rf_J := (14, yX14_isBetter, cX14_isBetter, 5, (some .boolean))
theorem mw_X14_isBetter : rf_mv j_X14_isBetter (rf_R 14) 3 := ⟨⟨rf_mem 80 (by decide +kernel), rf_mem 80 (by decide +kernel), rf_mem 0 (by decide +kernel), rf_mem 80 (by decide +kernel)⟩, by decide +kernel, by decide⟩
def g_X14_isBetter_23 (w : rf_w) (a2 : Int32) (a3 : Int32) (m : rf_m) : Option (Int32 × rf_m) := (if (m.1 206 105) = ((-1)) then some (1, m) else (if ((m.1 206 107) - (m.1 206 106)) ≤ (a3 - a2) then some (0, m) else some (1, m)))
def g_X14_isBetter_132_b (w : rf_w) (rec132 : Int32 → Int32 → rf_m → Option (Int32 × rf_m)) (a1 : Int32) (a4 : Int32) (m : rf_m) : Option (Int32 × rf_m) := (if a1 ≤ a4 then some (0, m) else rf_g (rf_in a4 6) (rf_g (rf_in a4 6) ((if (m.1 273 (Int32.toNatClampNeg a4)) = (m.1 276 (Int32.toNatClampNeg a4)) then rf_g (rf_in a4 6) (rf_g (rf_in a4 6) ((if (m.1 274 (Int32.toNatClampNeg a4)) = (m.1 277 (Int32.toNatClampNeg a4)) then rec132 a1 (a4 + 1) m else rf_g (rf_in a4 6) (rf_g (rf_in a4 6) ((if (m.1 277 (Int32.toNatClampNeg a4)) ≤ (m.1 274 (Int32.toNatClampNeg a4)) then some (0, m) else some (1, m))))))) else rf_g (rf_in a4 6) (rf_g (rf_in a4 6) ((if (m.1 276 (Int32.toNatClampNeg a4)) ≤ (m.1 273 (Int32.toNatClampNeg a4)) then some (0, m) else some (1, m))))))))
def g_X14_isBetter_132 (w : rf_w) : Nat → Int32 → Int32 → rf_m → Option (Int32 × rf_m)
  | 0, _, _, _ => none
  | n + 1, a1, a4, m => g_X14_isBetter_132_b w (g_X14_isBetter_132 w n) a1 a4 m
def g_X14_isBetter_77_b (w : rf_w) (rec77 : Int32 → Int32 → rf_m → Option (Int32 × rf_m)) (a1 : Int32) (a4 : Int32) (m : rf_m) : Option (Int32 × rf_m) := (if a1 ≤ a4 then g_X14_isBetter_132 w rf_fuel a1 0 m else rf_g (rf_in a4 6) (rf_g (rf_in a4 6) ((if (m.1 272 (Int32.toNatClampNeg a4)) = (m.1 275 (Int32.toNatClampNeg a4)) then rec77 a1 (a4 + 1) m else rf_g (rf_in a4 6) (rf_g (rf_in a4 6) ((if (m.1 275 (Int32.toNatClampNeg a4)) ≤ (m.1 272 (Int32.toNatClampNeg a4)) then some (0, m) else some (1, m))))))))
def g_X14_isBetter_77 (w : rf_w) : Nat → Int32 → Int32 → rf_m → Option (Int32 × rf_m)
  | 0, _, _, _ => none
  | n + 1, a1, a4, m => g_X14_isBetter_77_b w (g_X14_isBetter_77 w n) a1 a4 m
def g_X14_isBetter (w : rf_w) (m : rf_m) (a1 : Int32) (a2 : Int32) (a3 : Int32) : Option (Int32 × rf_m) := (if (m.1 206 105) = ((-1)) then g_X14_isBetter_23 w a2 a3 m else (if (a3 - a2) = ((m.1 206 107) - (m.1 206 106)) then (if a1 = (m.1 206 105) then g_X14_isBetter_77 w rf_fuel a1 0 m else (if (m.1 206 105) ≤ a1 then some (0, m) else some (1, m))) else g_X14_isBetter_23 w a2 a3 m))
theorem s_X14_isBetter_23 {w : rf_w} {K : rf_K} {r : Int32 × rf_m} (C : rf_Ctx 14 cX14_isBetter 5 1 (rf_sh w) K) (hE : rf_End (some .boolean) K (rf_sh w) 0 0 (some (.int r.1)) (rf_MM w r.2)) (a2 : Int32) (a3 : Int32) (m : rf_m) (hg : g_X14_isBetter_23 w a2 a3 m = some r) : rf_V 5 (rf_sh w) K 0 0 23 ([(0, .ref 206), (2, .int a2), (3, .int a3)], [], rf_MM w m) := by
  unfold g_X14_isBetter_23 at hg
  refine rf_seg C [(.aload 0, 1), (.invokeinterface 14 105, 3), (.iconst (-1), 1)] (pc' := 28) (S' := ([(0, .ref 206), (2, .int a2), (3, .int a3)], [.int ((-1)), .int (m.1 206 105)], rf_MM w m)) (by decide +kernel) rfl trivial ?_
  refine rf_icmp_eq C 18 46 (by decide +kernel) (fun hc => ?_) (fun hc => ?_)
  · replace hg := (if_pos hc).symm.trans hg
    refine rf_seg C [(.iconst 1, 1)] (pc' := 47) (S' := ([(0, .ref 206), (2, .int a2), (3, .int a3)], [.int 1], rf_MM w m)) (by decide +kernel) rfl trivial ?_
    refine rf_goto C 4 51 (by decide +kernel) ?_
    obtain rfl := Option.some.inj hg
    exact rf_zret C hE (by decide) (by decide +kernel)
  · replace hg := (if_neg hc).symm.trans hg
    refine rf_seg C [(.iload 3, 1), (.iload 2, 1), (.isub, 1), (.aload 0, 1), (.invokeinterface 14 107, 3), (.aload 0, 1), (.invokeinterface 14 106, 3), (.isub, 1)] (pc' := 43) (S' := ([(0, .ref 206), (2, .int a2), (3, .int a3)], [.int ((m.1 206 107) - (m.1 206 106)), .int (a3 - a2)], rf_MM w m)) (by decide +kernel) rfl trivial ?_
    refine rf_icmp_ge C 7 50 (by decide +kernel) (fun hc => ?_) (fun hc => ?_)
    · replace hg := (if_pos hc).symm.trans hg
      refine rf_seg C [(.iconst 0, 1)] (pc' := 51) (S' := ([(0, .ref 206), (2, .int a2), (3, .int a3)], [.int 0], rf_MM w m)) (by decide +kernel) rfl trivial ?_
      obtain rfl := Option.some.inj hg
      exact rf_zret C hE (by decide) (by decide +kernel)
    · replace hg := (if_neg hc).symm.trans hg
      refine rf_seg C [(.iconst 1, 1)] (pc' := 47) (S' := ([(0, .ref 206), (2, .int a2), (3, .int a3)], [.int 1], rf_MM w m)) (by decide +kernel) rfl trivial ?_
      refine rf_goto C 4 51 (by decide +kernel) ?_
      obtain rfl := Option.some.inj hg
      exact rf_zret C hE (by decide) (by decide +kernel)
theorem s_X14_isBetter_132_b {w : rf_w} {K : rf_K} {r : Int32 × rf_m} (C : rf_Ctx 14 cX14_isBetter 5 1 (rf_sh w) K) (hE : rf_End (some .boolean) K (rf_sh w) 0 0 (some (.int r.1)) (rf_MM w r.2)) {rec132 : Int32 → Int32 → rf_m → Option (Int32 × rf_m)} (hr132 : ∀ (a1 : Int32) (a4 : Int32) (m : rf_m), rec132 a1 a4 m = some r → rf_V 5 (rf_sh w) K 0 0 132 ([(0, .ref 206), (1, .int a1), (4, .int a4)], [], rf_MM w m)) (a1 : Int32) (a4 : Int32) (m : rf_m) (hg : g_X14_isBetter_132_b w rec132 a1 a4 m = some r) : rf_V 5 (rf_sh w) K 0 0 132 ([(0, .ref 206), (1, .int a1), (4, .int a4)], [], rf_MM w m) := by
  unfold g_X14_isBetter_132_b at hg
  refine rf_seg C [(.iload 4, 2), (.iload 1, 1)] (pc' := 135) (S' := ([(0, .ref 206), (1, .int a1), (4, .int a4)], [.int a1, .int a4], rf_MM w m)) (by decide +kernel) rfl trivial ?_
  refine rf_icmp_ge C 89 224 (by decide +kernel) (fun hc => ?_) (fun hc => ?_)
  · replace hg := (if_pos hc).symm.trans hg
    refine rf_seg C [(.iconst 0, 1)] (pc' := 225) (S' := ([(0, .ref 206), (1, .int a1), (4, .int a4)], [.int 0], rf_MM w m)) (by decide +kernel) rfl trivial ?_
    obtain rfl := Option.some.inj hg
    exact rf_zret C hE (by decide) (by decide +kernel)
  · replace hg := (if_neg hc).symm.trans hg
    obtain ⟨q0, hg⟩ := rf_g_some hg
    obtain ⟨q1, hg⟩ := rf_g_some hg
    refine rf_seg C [(.aload 0, 1), (.invokeinterface 14 98, 3), (.iload 4, 2), (.iaload, 1), (.aload 0, 1), (.invokeinterface 14 101, 3), (.iload 4, 2), (.iaload, 1)] (pc' := 152) (S' := ([(0, .ref 206), (1, .int a1), (4, .int a4)], [.int (m.1 276 (Int32.toNatClampNeg a4)), .int (m.1 273 (Int32.toNatClampNeg a4))], rf_MM w m)) (by decide +kernel) rfl (by exact ⟨(rf_in_of q0), (rf_in_of q1)⟩) ?_
    refine rf_icmp_eq C 26 178 (by decide +kernel) (fun hc => ?_) (fun hc => ?_)
    · replace hg := (if_pos hc).symm.trans hg
      obtain ⟨q2, hg⟩ := rf_g_some hg
      obtain ⟨q3, hg⟩ := rf_g_some hg
      refine rf_seg C [(.aload 0, 1), (.invokeinterface 14 99, 3), (.iload 4, 2), (.iaload, 1), (.aload 0, 1), (.invokeinterface 14 102, 3), (.iload 4, 2), (.iaload, 1)] (pc' := 192) (S' := ([(0, .ref 206), (1, .int a1), (4, .int a4)], [.int (m.1 277 (Int32.toNatClampNeg a4)), .int (m.1 274 (Int32.toNatClampNeg a4))], rf_MM w m)) (by decide +kernel) rfl (by exact ⟨(rf_in_of q2), (rf_in_of q3)⟩) ?_
      refine rf_icmp_eq C 26 218 (by decide +kernel) (fun hc => ?_) (fun hc => ?_)
      · replace hg := (if_pos hc).symm.trans hg
        refine rf_seg C [(.iinc 4 1, 3)] (pc' := 221) (S' := ([(4, .int (a4 + 1)), (0, .ref 206), (1, .int a1)], [], rf_MM w m)) (by decide +kernel) rfl trivial ?_
        refine rf_goto C (-89) 132 (by decide +kernel) ?_
        refine rf_few [1, 2, 0] rfl ?_
        exact hr132 a1 (a4 + 1) m hg
      · replace hg := (if_neg hc).symm.trans hg
        obtain ⟨q4, hg⟩ := rf_g_some hg
        obtain ⟨q5, hg⟩ := rf_g_some hg
        refine rf_seg C [(.aload 0, 1), (.invokeinterface 14 99, 3), (.iload 4, 2), (.iaload, 1), (.aload 0, 1), (.invokeinterface 14 102, 3), (.iload 4, 2), (.iaload, 1)] (pc' := 209) (S' := ([(0, .ref 206), (1, .int a1), (4, .int a4)], [.int (m.1 277 (Int32.toNatClampNeg a4)), .int (m.1 274 (Int32.toNatClampNeg a4))], rf_MM w m)) (by decide +kernel) rfl (by exact ⟨(rf_in_of q4), (rf_in_of q5)⟩) ?_
        refine rf_icmp_ge C 7 216 (by decide +kernel) (fun hc => ?_) (fun hc => ?_)
        · replace hg := (if_pos hc).symm.trans hg
          refine rf_seg C [(.iconst 0, 1)] (pc' := 217) (S' := ([(0, .ref 206), (1, .int a1), (4, .int a4)], [.int 0], rf_MM w m)) (by decide +kernel) rfl trivial ?_
          obtain rfl := Option.some.inj hg
          exact rf_zret C hE (by decide) (by decide +kernel)
        · replace hg := (if_neg hc).symm.trans hg
          refine rf_seg C [(.iconst 1, 1)] (pc' := 213) (S' := ([(0, .ref 206), (1, .int a1), (4, .int a4)], [.int 1], rf_MM w m)) (by decide +kernel) rfl trivial ?_
          refine rf_goto C 4 217 (by decide +kernel) ?_
          obtain rfl := Option.some.inj hg
          exact rf_zret C hE (by decide) (by decide +kernel)
    · replace hg := (if_neg hc).symm.trans hg
      obtain ⟨q6, hg⟩ := rf_g_some hg
      obtain ⟨q7, hg⟩ := rf_g_some hg
      refine rf_seg C [(.aload 0, 1), (.invokeinterface 14 98, 3), (.iload 4, 2), (.iaload, 1), (.aload 0, 1), (.invokeinterface 14 101, 3), (.iload 4, 2), (.iaload, 1)] (pc' := 169) (S' := ([(0, .ref 206), (1, .int a1), (4, .int a4)], [.int (m.1 276 (Int32.toNatClampNeg a4)), .int (m.1 273 (Int32.toNatClampNeg a4))], rf_MM w m)) (by decide +kernel) rfl (by exact ⟨(rf_in_of q6), (rf_in_of q7)⟩) ?_
      refine rf_icmp_ge C 7 176 (by decide +kernel) (fun hc => ?_) (fun hc => ?_)
      · replace hg := (if_pos hc).symm.trans hg
        refine rf_seg C [(.iconst 0, 1)] (pc' := 177) (S' := ([(0, .ref 206), (1, .int a1), (4, .int a4)], [.int 0], rf_MM w m)) (by decide +kernel) rfl trivial ?_
        obtain rfl := Option.some.inj hg
        exact rf_zret C hE (by decide) (by decide +kernel)
      · replace hg := (if_neg hc).symm.trans hg
        refine rf_seg C [(.iconst 1, 1)] (pc' := 173) (S' := ([(0, .ref 206), (1, .int a1), (4, .int a4)], [.int 1], rf_MM w m)) (by decide +kernel) rfl trivial ?_
        refine rf_goto C 4 177 (by decide +kernel) ?_
        obtain rfl := Option.some.inj hg
        exact rf_zret C hE (by decide) (by decide +kernel)
theorem s_X14_isBetter_132 {w : rf_w} {K : rf_K} {r : Int32 × rf_m} (C : rf_Ctx 14 cX14_isBetter 5 1 (rf_sh w) K) (hE : rf_End (some .boolean) K (rf_sh w) 0 0 (some (.int r.1)) (rf_MM w r.2)) (n : Nat) : ∀ (a1 : Int32) (a4 : Int32) (m : rf_m), g_X14_isBetter_132 w n a1 a4 m = some r → rf_V 5 (rf_sh w) K 0 0 132 ([(0, .ref 206), (1, .int a1), (4, .int a4)], [], rf_MM w m) := by
  induction n with
  | zero => intro a1 a4 m hg; cases hg
  | succ n ih => intro a1 a4 m hg; exact s_X14_isBetter_132_b C hE ih a1 a4 m hg
theorem s_X14_isBetter_77_b {w : rf_w} {K : rf_K} {r : Int32 × rf_m} (C : rf_Ctx 14 cX14_isBetter 5 1 (rf_sh w) K) (hE : rf_End (some .boolean) K (rf_sh w) 0 0 (some (.int r.1)) (rf_MM w r.2)) {rec77 : Int32 → Int32 → rf_m → Option (Int32 × rf_m)} (hr77 : ∀ (a1 : Int32) (a4 : Int32) (m : rf_m), rec77 a1 a4 m = some r → rf_V 5 (rf_sh w) K 0 0 77 ([(0, .ref 206), (1, .int a1), (4, .int a4)], [], rf_MM w m)) (a1 : Int32) (a4 : Int32) (m : rf_m) (hg : g_X14_isBetter_77_b w rec77 a1 a4 m = some r) : rf_V 5 (rf_sh w) K 0 0 77 ([(0, .ref 206), (1, .int a1), (4, .int a4)], [], rf_MM w m) := by
  unfold g_X14_isBetter_77_b at hg
  refine rf_seg C [(.iload 4, 2), (.iload 1, 1)] (pc' := 80) (S' := ([(0, .ref 206), (1, .int a1), (4, .int a4)], [.int a1, .int a4], rf_MM w m)) (by decide +kernel) rfl trivial ?_
  refine rf_icmp_ge C 49 129 (by decide +kernel) (fun hc => ?_) (fun hc => ?_)
  · replace hg := (if_pos hc).symm.trans hg
    refine rf_seg C [(.iconst 0, 1), (.istore 4, 2)] (pc' := 132) (S' := ([(4, .int 0), (0, .ref 206), (1, .int a1)], [], rf_MM w m)) (by decide +kernel) rfl trivial ?_
    refine rf_few [1, 2, 0] rfl ?_
    exact s_X14_isBetter_132 C hE rf_fuel a1 0 m hg
  · replace hg := (if_neg hc).symm.trans hg
    obtain ⟨q0, hg⟩ := rf_g_some hg
    obtain ⟨q1, hg⟩ := rf_g_some hg
    refine rf_seg C [(.aload 0, 1), (.invokeinterface 14 97, 3), (.iload 4, 2), (.iaload, 1), (.aload 0, 1), (.invokeinterface 14 100, 3), (.iload 4, 2), (.iaload, 1)] (pc' := 97) (S' := ([(0, .ref 206), (1, .int a1), (4, .int a4)], [.int (m.1 275 (Int32.toNatClampNeg a4)), .int (m.1 272 (Int32.toNatClampNeg a4))], rf_MM w m)) (by decide +kernel) rfl (by exact ⟨(rf_in_of q0), (rf_in_of q1)⟩) ?_
    refine rf_icmp_eq C 26 123 (by decide +kernel) (fun hc => ?_) (fun hc => ?_)
    · replace hg := (if_pos hc).symm.trans hg
      refine rf_seg C [(.iinc 4 1, 3)] (pc' := 126) (S' := ([(4, .int (a4 + 1)), (0, .ref 206), (1, .int a1)], [], rf_MM w m)) (by decide +kernel) rfl trivial ?_
      refine rf_goto C (-49) 77 (by decide +kernel) ?_
      refine rf_few [1, 2, 0] rfl ?_
      exact hr77 a1 (a4 + 1) m hg
    · replace hg := (if_neg hc).symm.trans hg
      obtain ⟨q2, hg⟩ := rf_g_some hg
      obtain ⟨q3, hg⟩ := rf_g_some hg
      refine rf_seg C [(.aload 0, 1), (.invokeinterface 14 97, 3), (.iload 4, 2), (.iaload, 1), (.aload 0, 1), (.invokeinterface 14 100, 3), (.iload 4, 2), (.iaload, 1)] (pc' := 114) (S' := ([(0, .ref 206), (1, .int a1), (4, .int a4)], [.int (m.1 275 (Int32.toNatClampNeg a4)), .int (m.1 272 (Int32.toNatClampNeg a4))], rf_MM w m)) (by decide +kernel) rfl (by exact ⟨(rf_in_of q2), (rf_in_of q3)⟩) ?_
      refine rf_icmp_ge C 7 121 (by decide +kernel) (fun hc => ?_) (fun hc => ?_)
      · replace hg := (if_pos hc).symm.trans hg
        refine rf_seg C [(.iconst 0, 1)] (pc' := 122) (S' := ([(0, .ref 206), (1, .int a1), (4, .int a4)], [.int 0], rf_MM w m)) (by decide +kernel) rfl trivial ?_
        obtain rfl := Option.some.inj hg
        exact rf_zret C hE (by decide) (by decide +kernel)
      · replace hg := (if_neg hc).symm.trans hg
        refine rf_seg C [(.iconst 1, 1)] (pc' := 118) (S' := ([(0, .ref 206), (1, .int a1), (4, .int a4)], [.int 1], rf_MM w m)) (by decide +kernel) rfl trivial ?_
        refine rf_goto C 4 122 (by decide +kernel) ?_
        obtain rfl := Option.some.inj hg
        exact rf_zret C hE (by decide) (by decide +kernel)
theorem s_X14_isBetter_77 {w : rf_w} {K : rf_K} {r : Int32 × rf_m} (C : rf_Ctx 14 cX14_isBetter 5 1 (rf_sh w) K) (hE : rf_End (some .boolean) K (rf_sh w) 0 0 (some (.int r.1)) (rf_MM w r.2)) (n : Nat) : ∀ (a1 : Int32) (a4 : Int32) (m : rf_m), g_X14_isBetter_77 w n a1 a4 m = some r → rf_V 5 (rf_sh w) K 0 0 77 ([(0, .ref 206), (1, .int a1), (4, .int a4)], [], rf_MM w m) := by
  induction n with
  | zero => intro a1 a4 m hg; cases hg
  | succ n ih => intro a1 a4 m hg; exact s_X14_isBetter_77_b C hE ih a1 a4 m hg
theorem c_X14_isBetter {w : rf_w} {m : rf_m} {a1 : Int32} {a2 : Int32} {a3 : Int32} {r : Int32 × rf_m} (hg : g_X14_isBetter w m a1 a2 a3 = some r) : rf_Con j_X14_isBetter 1 (rf_sh w) [.ref 206, .int a1, .int a2, .int a3] (rf_MM w m) (some (.int r.1)) (rf_MM w r.2) := by
  refine rf_con j_X14_isBetter 1 ⟨by decide +kernel, rfl, Nat.le_of_ble_eq_true rfl⟩ (fun K C hE => ?_)
  unfold g_X14_isBetter at hg
  show rf_V 5 (rf_sh w) K 0 0 0 ([(0, .ref 206), (1, .int a1), (2, .int a2), (3, .int a3)], [], rf_MM w m)
  refine rf_seg C [(.aload 0, 1), (.invokeinterface 14 105, 3), (.iconst (-1), 1)] (pc' := 5) (S' := ([(0, .ref 206), (1, .int a1), (2, .int a2), (3, .int a3)], [.int ((-1)), .int (m.1 206 105)], rf_MM w m)) (by decide +kernel) rfl trivial ?_
  refine rf_icmp_eq C 18 23 (by decide +kernel) (fun hc => ?_) (fun hc => ?_)
  · replace hg := (if_pos hc).symm.trans hg
    refine rf_few [0, 2, 3] rfl ?_
    exact s_X14_isBetter_23 C hE a2 a3 m hg
  · replace hg := (if_neg hc).symm.trans hg
    refine rf_seg C [(.iload 3, 1), (.iload 2, 1), (.isub, 1), (.aload 0, 1), (.invokeinterface 14 107, 3), (.aload 0, 1), (.invokeinterface 14 106, 3), (.isub, 1)] (pc' := 20) (S' := ([(0, .ref 206), (1, .int a1), (2, .int a2), (3, .int a3)], [.int ((m.1 206 107) - (m.1 206 106)), .int (a3 - a2)], rf_MM w m)) (by decide +kernel) rfl trivial ?_
    refine rf_icmp_eq C 32 52 (by decide +kernel) (fun hc => ?_) (fun hc => ?_)
    · replace hg := (if_pos hc).symm.trans hg
      refine rf_seg C [(.iload 1, 1), (.aload 0, 1), (.invokeinterface 14 105, 3)] (pc' := 57) (S' := ([(0, .ref 206), (1, .int a1), (2, .int a2), (3, .int a3)], [.int (m.1 206 105), .int a1], rf_MM w m)) (by decide +kernel) rfl trivial ?_
      refine rf_icmp_eq C 17 74 (by decide +kernel) (fun hc => ?_) (fun hc => ?_)
      · replace hg := (if_pos hc).symm.trans hg
        refine rf_seg C [(.iconst 0, 1), (.istore 4, 2)] (pc' := 77) (S' := ([(4, .int 0), (0, .ref 206), (1, .int a1), (2, .int a2), (3, .int a3)], [], rf_MM w m)) (by decide +kernel) rfl trivial ?_
        refine rf_few [1, 2, 0] rfl ?_
        exact s_X14_isBetter_77 C hE rf_fuel a1 0 m hg
      · replace hg := (if_neg hc).symm.trans hg
        refine rf_seg C [(.iload 1, 1), (.aload 0, 1), (.invokeinterface 14 105, 3)] (pc' := 65) (S' := ([(0, .ref 206), (1, .int a1), (2, .int a2), (3, .int a3)], [.int (m.1 206 105), .int a1], rf_MM w m)) (by decide +kernel) rfl trivial ?_
        refine rf_icmp_ge C 7 72 (by decide +kernel) (fun hc => ?_) (fun hc => ?_)
        · replace hg := (if_pos hc).symm.trans hg
          refine rf_seg C [(.iconst 0, 1)] (pc' := 73) (S' := ([(0, .ref 206), (1, .int a1), (2, .int a2), (3, .int a3)], [.int 0], rf_MM w m)) (by decide +kernel) rfl trivial ?_
          obtain rfl := Option.some.inj hg
          exact rf_zret C hE (by decide) (by decide +kernel)
        · replace hg := (if_neg hc).symm.trans hg
          refine rf_seg C [(.iconst 1, 1)] (pc' := 69) (S' := ([(0, .ref 206), (1, .int a1), (2, .int a2), (3, .int a3)], [.int 1], rf_MM w m)) (by decide +kernel) rfl trivial ?_
          refine rf_goto C 4 73 (by decide +kernel) ?_
          obtain rfl := Option.some.inj hg
          exact rf_zret C hE (by decide) (by decide +kernel)
    · replace hg := (if_neg hc).symm.trans hg
      refine rf_few [0, 2, 3] rfl ?_
      exact s_X14_isBetter_23 C hE a2 a3 m hg
-- X14_link
abbrev j_X14_link : rf_J := (14, yX14_link, cX14_link, 2, (some .int))
theorem mw_X14_link : rf_mv j_X14_link (rf_R 14) 1 := ⟨⟨rf_mem 81 (by decide +kernel), rf_mem 81 (by decide +kernel), rf_mem 0 (by decide +kernel), rf_mem 81 (by decide +kernel)⟩, by decide +kernel, by decide⟩
def g_X14_link (w : rf_w) (m : rf_m) (a1 : Int32) : Option (Int32 × rf_m) := (if a1 < 0 then some ((-1), rf_i m 206 0 0) else (if ((rf_i m 206 0 0).1 206 110) ≤ a1 then some ((-1), rf_i m 206 0 0) else rf_g (rf_in a1 6) (some ((rf_i m 206 0 0).1 278 (Int32.toNatClampNeg a1), rf_i m 206 0 0))))
theorem c_X14_link {w : rf_w} {m : rf_m} {a1 : Int32} {r : Int32 × rf_m} (hg : g_X14_link w m a1 = some r) : rf_Con j_X14_link 1 (rf_sh w) [.ref 206, .int a1] (rf_MM w m) (some (.int r.1)) (rf_MM w r.2) := by
  refine rf_con j_X14_link 1 ⟨by decide +kernel, rfl, Nat.le_of_ble_eq_true rfl⟩ (fun K C hE => ?_)
  unfold g_X14_link at hg
  show rf_V 2 (rf_sh w) K 0 0 0 ([(0, .ref 206), (1, .int a1)], [], rf_MM w m)
  refine rf_seg C [(.aload 0, 1), (.iconst 0, 1), (.multianewarray 14 0, 3), (.iload 1, 1)] (pc' := 6) (S' := ([(0, .ref 206), (1, .int a1)], [.int a1], rf_MM w (rf_i m 206 0 0))) (by decide +kernel) rfl trivial ?_
  refine rf_if_lt C 20 26 (by decide +kernel) (fun hc => ?_) (fun hc => ?_)
  · replace hg := (if_pos hc).symm.trans hg
    refine rf_seg C [(.iconst (-1), 1)] (pc' := 27) (S' := ([(0, .ref 206), (1, .int a1)], [.int ((-1))], rf_MM w (rf_i m 206 0 0))) (by decide +kernel) rfl trivial ?_
    obtain rfl := Option.some.inj hg
    exact rf_iret C hE (by decide +kernel)
  · replace hg := (if_neg hc).symm.trans hg
    refine rf_seg C [(.iload 1, 1), (.aload 0, 1), (.invokeinterface 14 110, 3)] (pc' := 14) (S' := ([(0, .ref 206), (1, .int a1)], [.int ((rf_i m 206 0 0).1 206 110), .int a1], rf_MM w (rf_i m 206 0 0))) (by decide +kernel) rfl trivial ?_
    refine rf_icmp_ge C 12 26 (by decide +kernel) (fun hc => ?_) (fun hc => ?_)
    · replace hg := (if_pos hc).symm.trans hg
      refine rf_seg C [(.iconst (-1), 1)] (pc' := 27) (S' := ([(0, .ref 206), (1, .int a1)], [.int ((-1))], rf_MM w (rf_i m 206 0 0))) (by decide +kernel) rfl trivial ?_
      obtain rfl := Option.some.inj hg
      exact rf_iret C hE (by decide +kernel)
    · replace hg := (if_neg hc).symm.trans hg
      obtain ⟨q0, hg⟩ := rf_g_some hg
      refine rf_seg C [(.aload 0, 1), (.invokeinterface 14 103, 3), (.iload 1, 1), (.iaload, 1)] (pc' := 23) (S' := ([(0, .ref 206), (1, .int a1)], [.int ((rf_i m 206 0 0).1 278 (Int32.toNatClampNeg a1))], rf_MM w (rf_i m 206 0 0))) (by decide +kernel) rfl (rf_in_of q0) ?_
      refine rf_goto C 4 27 (by decide +kernel) ?_
      obtain rfl := Option.some.inj hg
      exact rf_iret C hE (by decide +kernel)
-- X14_side
abbrev j_X14_side : rf_J := (14, yX14_side, cX14_side, 2, (some .int))
theorem mw_X14_side : rf_mv j_X14_side (rf_R 14) 1 := ⟨⟨rf_mem 81 (by decide +kernel), rf_mem 81 (by decide +kernel), rf_mem 0 (by decide +kernel), rf_mem 81 (by decide +kernel)⟩, by decide +kernel, by decide⟩
def g_X14_side (w : rf_w) (m : rf_m) (a1 : Int32) : Option (Int32 × rf_m) := (if ((rf_i m 206 0 0).1 206 110) = ((-1)) then some ((-1), rf_i m 206 0 0) else (if a1 = 0 then some ((rf_i m 206 0 0).1 206 111, rf_i m 206 0 0) else some ((rf_i m 206 0 0).1 206 112, rf_i m 206 0 0)))
theorem c_X14_side {w : rf_w} {m : rf_m} {a1 : Int32} {r : Int32 × rf_m} (hg : g_X14_side w m a1 = some r) : rf_Con j_X14_side 1 (rf_sh w) [.ref 206, .int a1] (rf_MM w m) (some (.int r.1)) (rf_MM w r.2) := by
  refine rf_con j_X14_side 1 ⟨by decide +kernel, rfl, Nat.le_of_ble_eq_true rfl⟩ (fun K C hE => ?_)
  unfold g_X14_side at hg
  show rf_V 2 (rf_sh w) K 0 0 0 ([(0, .ref 206), (1, .int a1)], [], rf_MM w m)
  refine rf_seg C [(.aload 0, 1), (.iconst 0, 1), (.multianewarray 14 0, 3), (.aload 0, 1), (.invokeinterface 14 110, 3), (.iconst (-1), 1)] (pc' := 10) (S' := ([(0, .ref 206), (1, .int a1)], [.int ((-1)), .int ((rf_i m 206 0 0).1 206 110)], rf_MM w (rf_i m 206 0 0))) (by decide +kernel) rfl trivial ?_
  refine rf_icmp_ne C 7 17 (by decide +kernel) (fun hc => ?_) (fun hc => ?_)
  · replace hg := (if_neg hc).symm.trans hg
    refine rf_seg C [(.iload 1, 1)] (pc' := 18) (S' := ([(0, .ref 206), (1, .int a1)], [.int a1], rf_MM w (rf_i m 206 0 0))) (by decide +kernel) rfl trivial ?_
    refine rf_if_eq C 10 28 (by decide +kernel) (fun hc => ?_) (fun hc => ?_)
    · replace hg := (if_pos hc).symm.trans hg
      refine rf_seg C [(.aload 0, 1), (.invokeinterface 14 111, 3)] (pc' := 32) (S' := ([(0, .ref 206), (1, .int a1)], [.int ((rf_i m 206 0 0).1 206 111)], rf_MM w (rf_i m 206 0 0))) (by decide +kernel) rfl trivial ?_
      obtain rfl := Option.some.inj hg
      exact rf_iret C hE (by decide +kernel)
    · replace hg := (if_neg hc).symm.trans hg
      refine rf_seg C [(.aload 0, 1), (.invokeinterface 14 112, 3)] (pc' := 25) (S' := ([(0, .ref 206), (1, .int a1)], [.int ((rf_i m 206 0 0).1 206 112)], rf_MM w (rf_i m 206 0 0))) (by decide +kernel) rfl trivial ?_
      refine rf_goto C 7 32 (by decide +kernel) ?_
      obtain rfl := Option.some.inj hg
      exact rf_iret C hE (by decide +kernel)
  · replace hg := (if_pos hc).symm.trans hg
    refine rf_seg C [(.iconst (-1), 1)] (pc' := 14) (S' := ([(0, .ref 206), (1, .int a1)], [.int ((-1))], rf_MM w (rf_i m 206 0 0))) (by decide +kernel) rfl trivial ?_
    refine rf_goto C 18 32 (by decide +kernel) ?_
    obtain rfl := Option.some.inj hg
    exact rf_iret C hE (by decide +kernel)
