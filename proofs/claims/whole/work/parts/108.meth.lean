/-! methods as functions, and their contracts (written by wip/tool/gen.py) -/
-- X14_isTriangle
abbrev j_X14_isTriangle : rf_J := (14, yX14_isTriangle, cX14_isTriangle, 2, (some .boolean))
theorem mw_X14_isTriangle : rf_mv j_X14_isTriangle (rf_R 14) 1 := ⟨⟨rf_mem 62 (by decide +kernel), rf_mem 62 (by decide +kernel), rf_mem 0 (by decide +kernel), rf_mem 62 (by decide +kernel)⟩, by decide +kernel, by decide⟩
def g_X14_isTriangle (w : rf_w) (m : rf_m) (a1 : Int32) : Option (Int32 × rf_m) := (if a1 < 0 then some (0, m) else (if (m.1 206 64) ≤ a1 then some (0, m) else some (1, m)))
theorem c_X14_isTriangle {w : rf_w} {m : rf_m} {a1 : Int32} {r : Int32 × rf_m} (hg : g_X14_isTriangle w m a1 = some r) : rf_Con j_X14_isTriangle 1 (rf_sh w) [.ref 206, .int a1] (rf_MM w m) (some (.int r.1)) (rf_MM w r.2) := by
  refine rf_con j_X14_isTriangle 1 ⟨by decide +kernel, rfl, Nat.le_of_ble_eq_true rfl⟩ (fun K C hE => ?_)
  unfold g_X14_isTriangle at hg
  show rf_V 2 (rf_sh w) K 0 0 0 ([(0, .ref 206), (1, .int a1)], [], rf_MM w m)
  refine rf_seg C [(.iload 1, 1)] (pc' := 1) (S' := ([(0, .ref 206), (1, .int a1)], [.int a1], rf_MM w m)) (by decide +kernel) rfl trivial ?_
  refine rf_if_lt C 15 16 (by decide +kernel) (fun hc => ?_) (fun hc => ?_)
  · replace hg := (if_pos hc).symm.trans hg
    refine rf_seg C [(.iconst 0, 1)] (pc' := 17) (S' := ([(0, .ref 206), (1, .int a1)], [.int 0], rf_MM w m)) (by decide +kernel) rfl trivial ?_
    obtain rfl := Option.some.inj hg
    exact rf_zret C hE (by decide) (by decide +kernel)
  · replace hg := (if_neg hc).symm.trans hg
    refine rf_seg C [(.iload 1, 1), (.aload 0, 1), (.invokeinterface 14 64, 3)] (pc' := 9) (S' := ([(0, .ref 206), (1, .int a1)], [.int (m.1 206 64), .int a1], rf_MM w m)) (by decide +kernel) rfl trivial ?_
    refine rf_icmp_ge C 7 16 (by decide +kernel) (fun hc => ?_) (fun hc => ?_)
    · replace hg := (if_pos hc).symm.trans hg
      refine rf_seg C [(.iconst 0, 1)] (pc' := 17) (S' := ([(0, .ref 206), (1, .int a1)], [.int 0], rf_MM w m)) (by decide +kernel) rfl trivial ?_
      obtain rfl := Option.some.inj hg
      exact rf_zret C hE (by decide) (by decide +kernel)
    · replace hg := (if_neg hc).symm.trans hg
      refine rf_seg C [(.iconst 1, 1)] (pc' := 13) (S' := ([(0, .ref 206), (1, .int a1)], [.int 1], rf_MM w m)) (by decide +kernel) rfl trivial ?_
      refine rf_goto C 4 17 (by decide +kernel) ?_
      obtain rfl := Option.some.inj hg
      exact rf_zret C hE (by decide) (by decide +kernel)
-- X14_isBetween
abbrev j_X14_isBetween : rf_J := (14, yX14_isBetween, cX14_isBetween, 4, (some .boolean))
theorem mw_X14_isBetween : rf_mv j_X14_isBetween (rf_R 14) 3 := ⟨⟨rf_mem 58 (by decide +kernel), rf_mem 58 (by decide +kernel), rf_mem 0 (by decide +kernel), rf_mem 58 (by decide +kernel)⟩, by decide +kernel, by decide⟩
def g_X14_isBetween_20 (w : rf_w) (a1 : Int32) (a2 : Int32) (a3 : Int32) (m : rf_m) : Option (Int32 × rf_m) := rf_g (rf_in a1 80) ((if (m.1 218 (Int32.toNatClampNeg a1)) = a3 then rf_g (rf_in a1 80) ((if (m.1 219 (Int32.toNatClampNeg a1)) = a2 then some (1, m) else some (0, m))) else some (0, m)))
def g_X14_isBetween (w : rf_w) (m : rf_m) (a1 : Int32) (a2 : Int32) (a3 : Int32) : Option (Int32 × rf_m) := rf_g (rf_in a1 80) ((if (m.1 218 (Int32.toNatClampNeg a1)) = a2 then rf_g (rf_in a1 80) ((if (m.1 219 (Int32.toNatClampNeg a1)) = a3 then some (1, m) else g_X14_isBetween_20 w a1 a2 a3 m)) else g_X14_isBetween_20 w a1 a2 a3 m))
theorem s_X14_isBetween_20 {w : rf_w} {K : rf_K} {r : Int32 × rf_m} (C : rf_Ctx 14 cX14_isBetween 4 1 (rf_sh w) K) (hE : rf_End (some .boolean) K (rf_sh w) 0 0 (some (.int r.1)) (rf_MM w r.2)) (a1 : Int32) (a2 : Int32) (a3 : Int32) (m : rf_m) (hg : g_X14_isBetween_20 w a1 a2 a3 m = some r) : rf_V 4 (rf_sh w) K 0 0 20 ([(0, .ref 206), (1, .int a1), (2, .int a2), (3, .int a3)], [], rf_MM w m) := by
  unfold g_X14_isBetween_20 at hg
  obtain ⟨q0, hg⟩ := rf_g_some hg
  refine rf_seg C [(.aload 0, 1), (.invokeinterface 14 22, 3), (.iload 1, 1), (.iaload, 1), (.iload 3, 1)] (pc' := 27) (S' := ([(0, .ref 206), (1, .int a1), (2, .int a2), (3, .int a3)], [.int a3, .int (m.1 218 (Int32.toNatClampNeg a1))], rf_MM w m)) (by decide +kernel) rfl (rf_in_of q0) ?_
  refine rf_icmp_ne C 17 44 (by decide +kernel) (fun hc => ?_) (fun hc => ?_)
  · replace hg := (if_neg hc).symm.trans hg
    refine rf_seg C [(.iconst 0, 1)] (pc' := 45) (S' := ([(0, .ref 206), (1, .int a1), (2, .int a2), (3, .int a3)], [.int 0], rf_MM w m)) (by decide +kernel) rfl trivial ?_
    obtain rfl := Option.some.inj hg
    exact rf_zret C hE (by decide) (by decide +kernel)
  · replace hg := (if_pos hc).symm.trans hg
    obtain ⟨q1, hg⟩ := rf_g_some hg
    refine rf_seg C [(.aload 0, 1), (.invokeinterface 14 23, 3), (.iload 1, 1), (.iaload, 1), (.iload 2, 1)] (pc' := 37) (S' := ([(0, .ref 206), (1, .int a1), (2, .int a2), (3, .int a3)], [.int a2, .int (m.1 219 (Int32.toNatClampNeg a1))], rf_MM w m)) (by decide +kernel) rfl (rf_in_of q1) ?_
    refine rf_icmp_ne C 7 44 (by decide +kernel) (fun hc => ?_) (fun hc => ?_)
    · replace hg := (if_neg hc).symm.trans hg
      refine rf_seg C [(.iconst 0, 1)] (pc' := 45) (S' := ([(0, .ref 206), (1, .int a1), (2, .int a2), (3, .int a3)], [.int 0], rf_MM w m)) (by decide +kernel) rfl trivial ?_
      obtain rfl := Option.some.inj hg
      exact rf_zret C hE (by decide) (by decide +kernel)
    · replace hg := (if_pos hc).symm.trans hg
      refine rf_seg C [(.iconst 1, 1)] (pc' := 41) (S' := ([(0, .ref 206), (1, .int a1), (2, .int a2), (3, .int a3)], [.int 1], rf_MM w m)) (by decide +kernel) rfl trivial ?_
      refine rf_goto C 4 45 (by decide +kernel) ?_
      obtain rfl := Option.some.inj hg
      exact rf_zret C hE (by decide) (by decide +kernel)
theorem c_X14_isBetween {w : rf_w} {m : rf_m} {a1 : Int32} {a2 : Int32} {a3 : Int32} {r : Int32 × rf_m} (hg : g_X14_isBetween w m a1 a2 a3 = some r) : rf_Con j_X14_isBetween 1 (rf_sh w) [.ref 206, .int a1, .int a2, .int a3] (rf_MM w m) (some (.int r.1)) (rf_MM w r.2) := by
  refine rf_con j_X14_isBetween 1 ⟨by decide +kernel, rfl, Nat.le_of_ble_eq_true rfl⟩ (fun K C hE => ?_)
  unfold g_X14_isBetween at hg
  show rf_V 4 (rf_sh w) K 0 0 0 ([(0, .ref 206), (1, .int a1), (2, .int a2), (3, .int a3)], [], rf_MM w m)
  obtain ⟨q0, hg⟩ := rf_g_some hg
  refine rf_seg C [(.aload 0, 1), (.invokeinterface 14 22, 3), (.iload 1, 1), (.iaload, 1), (.iload 2, 1)] (pc' := 7) (S' := ([(0, .ref 206), (1, .int a1), (2, .int a2), (3, .int a3)], [.int a2, .int (m.1 218 (Int32.toNatClampNeg a1))], rf_MM w m)) (by decide +kernel) rfl (rf_in_of q0) ?_
  refine rf_icmp_ne C 13 20 (by decide +kernel) (fun hc => ?_) (fun hc => ?_)
  · replace hg := (if_neg hc).symm.trans hg
    refine rf_few [0, 1, 2, 3] rfl ?_
    exact s_X14_isBetween_20 C hE a1 a2 a3 m hg
  · replace hg := (if_pos hc).symm.trans hg
    obtain ⟨q1, hg⟩ := rf_g_some hg
    refine rf_seg C [(.aload 0, 1), (.invokeinterface 14 23, 3), (.iload 1, 1), (.iaload, 1), (.iload 3, 1)] (pc' := 17) (S' := ([(0, .ref 206), (1, .int a1), (2, .int a2), (3, .int a3)], [.int a3, .int (m.1 219 (Int32.toNatClampNeg a1))], rf_MM w m)) (by decide +kernel) rfl (rf_in_of q1) ?_
    refine rf_icmp_eq C 23 40 (by decide +kernel) (fun hc => ?_) (fun hc => ?_)
    · replace hg := (if_pos hc).symm.trans hg
      refine rf_seg C [(.iconst 1, 1)] (pc' := 41) (S' := ([(0, .ref 206), (1, .int a1), (2, .int a2), (3, .int a3)], [.int 1], rf_MM w m)) (by decide +kernel) rfl trivial ?_
      refine rf_goto C 4 45 (by decide +kernel) ?_
      obtain rfl := Option.some.inj hg
      exact rf_zret C hE (by decide) (by decide +kernel)
    · replace hg := (if_neg hc).symm.trans hg
      refine rf_few [0, 1, 2, 3] rfl ?_
      exact s_X14_isBetween_20 C hE a1 a2 a3 m hg
-- X14_triangle
abbrev j_X14_triangle : rf_J := (14, yX14_triangle, cX14_triangle, 8, (some .int))
theorem mw_X14_triangle : rf_mv j_X14_triangle (rf_R 14) 4 := ⟨⟨rf_mem 58 (by decide +kernel), rf_mem 58 (by decide +kernel), rf_mem 0 (by decide +kernel), rf_mem 58 (by decide +kernel)⟩, by decide +kernel, by decide⟩
def g_X14_triangle (w : rf_w) (m : rf_m) (a1 : Int32) (a2 : Int32) (a3 : Int32) (a4 : Int32) : Option (Int32 × rf_m) := rf_b (g_X14_isAngle w (rf_i m 206 0 0) a1) fun y0 m0 => (if y0 = 0 then rf_b (g_X14_refused w m0 1) fun y1 m1 => some (y1, m1) else rf_b (g_X14_isAngle w m0 a2) fun y2 m2 => (if y2 = 0 then rf_b (g_X14_refused w m2 1) fun y3 m3 => some (y3, m3) else rf_b (g_X14_isAngle w m2 a3) fun y4 m4 => (if y4 = 0 then rf_b (g_X14_refused w m4 1) fun y28 m28 => some (y28, m28) else rf_b (g_X14_in w m4 a4 0 9999) fun y5 m5 => (if y5 = 0 then rf_b (g_X14_refused w m5 2) fun y27 m27 => some (y27, m27) else rf_g (rf_in a1 80) (rf_vi (m5.1 217 (Int32.toNatClampNeg a1)) fun x7 => rf_g (rf_in a2 80) (rf_vi (m5.1 217 (Int32.toNatClampNeg a2)) fun x9 => rf_g (rf_in a3 80) (rf_vi (m5.1 217 (Int32.toNatClampNeg a3)) fun x11 => (if x7 = x9 then rf_b (g_X14_refused w m5 5) fun y12 m12 => some (y12, m12) else (if x9 = x11 then rf_b (g_X14_refused w m5 5) fun y13 m13 => some (y13, m13) else (if x11 = x7 then rf_b (g_X14_refused w m5 5) fun y14 m14 => some (y14, m14) else rf_b (g_X14_isBetween w m5 a1 x9 x11) fun y15 m15 => (if y15 = 0 then rf_b (g_X14_refused w m15 5) fun y16 m16 => some (y16, m16) else rf_b (g_X14_isBetween w m15 a2 x7 x11) fun y17 m17 => (if y17 = 0 then rf_b (g_X14_refused w m17 5) fun y18 m18 => some (y18, m18) else rf_b (g_X14_isBetween w m17 a3 x7 x9) fun y19 m19 => (if y19 = 0 then rf_b (g_X14_refused w m19 5) fun y26 m26 => some (y26, m26) else (if (m19.1 206 64) = 30 then rf_b (g_X14_refused w m19 3) fun y25 m25 => some (y25, m25) else rf_g (rf_in (3 * (m19.1 206 64)) 90) (rf_g (rf_in ((3 * ((rf_i m19 243 (Int32.toNatClampNeg (3 * (m19.1 206 64))) a1).1 206 64)) + 1) 90) (rf_g (rf_in ((3 * ((rf_i (rf_i m19 243 (Int32.toNatClampNeg (3 * (m19.1 206 64))) a1) 243 (Int32.toNatClampNeg ((3 * ((rf_i m19 243 (Int32.toNatClampNeg (3 * (m19.1 206 64))) a1).1 206 64)) + 1)) a2).1 206 64)) + 2) 90) (rf_g (rf_in ((rf_i (rf_i (rf_i m19 243 (Int32.toNatClampNeg (3 * (m19.1 206 64))) a1) 243 (Int32.toNatClampNeg ((3 * ((rf_i m19 243 (Int32.toNatClampNeg (3 * (m19.1 206 64))) a1).1 206 64)) + 1)) a2) 243 (Int32.toNatClampNeg ((3 * ((rf_i (rf_i m19 243 (Int32.toNatClampNeg (3 * (m19.1 206 64))) a1) 243 (Int32.toNatClampNeg ((3 * ((rf_i m19 243 (Int32.toNatClampNeg (3 * (m19.1 206 64))) a1).1 206 64)) + 1)) a2).1 206 64)) + 2)) a3).1 206 64) 30) (rf_b (g_X14_done w (rf_i (rf_i (rf_i (rf_i (rf_i m19 243 (Int32.toNatClampNeg (3 * (m19.1 206 64))) a1) 243 (Int32.toNatClampNeg ((3 * ((rf_i m19 243 (Int32.toNatClampNeg (3 * (m19.1 206 64))) a1).1 206 64)) + 1)) a2) 243 (Int32.toNatClampNeg ((3 * ((rf_i (rf_i m19 243 (Int32.toNatClampNeg (3 * (m19.1 206 64))) a1) 243 (Int32.toNatClampNeg ((3 * ((rf_i m19 243 (Int32.toNatClampNeg (3 * (m19.1 206 64))) a1).1 206 64)) + 1)) a2).1 206 64)) + 2)) a3) 244 (Int32.toNatClampNeg ((rf_i (rf_i (rf_i m19 243 (Int32.toNatClampNeg (3 * (m19.1 206 64))) a1) 243 (Int32.toNatClampNeg ((3 * ((rf_i m19 243 (Int32.toNatClampNeg (3 * (m19.1 206 64))) a1).1 206 64)) + 1)) a2) 243 (Int32.toNatClampNeg ((3 * ((rf_i (rf_i m19 243 (Int32.toNatClampNeg (3 * (m19.1 206 64))) a1) 243 (Int32.toNatClampNeg ((3 * ((rf_i m19 243 (Int32.toNatClampNeg (3 * (m19.1 206 64))) a1).1 206 64)) + 1)) a2).1 206 64)) + 2)) a3).1 206 64)) a4) 206 64 (((rf_i (rf_i (rf_i (rf_i m19 243 (Int32.toNatClampNeg (3 * (m19.1 206 64))) a1) 243 (Int32.toNatClampNeg ((3 * ((rf_i m19 243 (Int32.toNatClampNeg (3 * (m19.1 206 64))) a1).1 206 64)) + 1)) a2) 243 (Int32.toNatClampNeg ((3 * ((rf_i (rf_i m19 243 (Int32.toNatClampNeg (3 * (m19.1 206 64))) a1) 243 (Int32.toNatClampNeg ((3 * ((rf_i m19 243 (Int32.toNatClampNeg (3 * (m19.1 206 64))) a1).1 206 64)) + 1)) a2).1 206 64)) + 2)) a3) 244 (Int32.toNatClampNeg ((rf_i (rf_i (rf_i m19 243 (Int32.toNatClampNeg (3 * (m19.1 206 64))) a1) 243 (Int32.toNatClampNeg ((3 * ((rf_i m19 243 (Int32.toNatClampNeg (3 * (m19.1 206 64))) a1).1 206 64)) + 1)) a2) 243 (Int32.toNatClampNeg ((3 * ((rf_i (rf_i m19 243 (Int32.toNatClampNeg (3 * (m19.1 206 64))) a1) 243 (Int32.toNatClampNeg ((3 * ((rf_i m19 243 (Int32.toNatClampNeg (3 * (m19.1 206 64))) a1).1 206 64)) + 1)) a2).1 206 64)) + 2)) a3).1 206 64)) a4).1 206 64) + 1)) (((rf_i (rf_i (rf_i (rf_i (rf_i m19 243 (Int32.toNatClampNeg (3 * (m19.1 206 64))) a1) 243 (Int32.toNatClampNeg ((3 * ((rf_i m19 243 (Int32.toNatClampNeg (3 * (m19.1 206 64))) a1).1 206 64)) + 1)) a2) 243 (Int32.toNatClampNeg ((3 * ((rf_i (rf_i m19 243 (Int32.toNatClampNeg (3 * (m19.1 206 64))) a1) 243 (Int32.toNatClampNeg ((3 * ((rf_i m19 243 (Int32.toNatClampNeg (3 * (m19.1 206 64))) a1).1 206 64)) + 1)) a2).1 206 64)) + 2)) a3) 244 (Int32.toNatClampNeg ((rf_i (rf_i (rf_i m19 243 (Int32.toNatClampNeg (3 * (m19.1 206 64))) a1) 243 (Int32.toNatClampNeg ((3 * ((rf_i m19 243 (Int32.toNatClampNeg (3 * (m19.1 206 64))) a1).1 206 64)) + 1)) a2) 243 (Int32.toNatClampNeg ((3 * ((rf_i (rf_i m19 243 (Int32.toNatClampNeg (3 * (m19.1 206 64))) a1) 243 (Int32.toNatClampNeg ((3 * ((rf_i m19 243 (Int32.toNatClampNeg (3 * (m19.1 206 64))) a1).1 206 64)) + 1)) a2).1 206 64)) + 2)) a3).1 206 64)) a4) 206 64 (((rf_i (rf_i (rf_i (rf_i m19 243 (Int32.toNatClampNeg (3 * (m19.1 206 64))) a1) 243 (Int32.toNatClampNeg ((3 * ((rf_i m19 243 (Int32.toNatClampNeg (3 * (m19.1 206 64))) a1).1 206 64)) + 1)) a2) 243 (Int32.toNatClampNeg ((3 * ((rf_i (rf_i m19 243 (Int32.toNatClampNeg (3 * (m19.1 206 64))) a1) 243 (Int32.toNatClampNeg ((3 * ((rf_i m19 243 (Int32.toNatClampNeg (3 * (m19.1 206 64))) a1).1 206 64)) + 1)) a2).1 206 64)) + 2)) a3) 244 (Int32.toNatClampNeg ((rf_i (rf_i (rf_i m19 243 (Int32.toNatClampNeg (3 * (m19.1 206 64))) a1) 243 (Int32.toNatClampNeg ((3 * ((rf_i m19 243 (Int32.toNatClampNeg (3 * (m19.1 206 64))) a1).1 206 64)) + 1)) a2) 243 (Int32.toNatClampNeg ((3 * ((rf_i (rf_i m19 243 (Int32.toNatClampNeg (3 * (m19.1 206 64))) a1) 243 (Int32.toNatClampNeg ((3 * ((rf_i m19 243 (Int32.toNatClampNeg (3 * (m19.1 206 64))) a1).1 206 64)) + 1)) a2).1 206 64)) + 2)) a3).1 206 64)) a4).1 206 64) + 1)).1 206 64) - 1)) fun y24 m24 => some (y24, m24)))))))))))))))))))
theorem c_X14_triangle {w : rf_w} {m : rf_m} {a1 : Int32} {a2 : Int32} {a3 : Int32} {a4 : Int32} {r : Int32 × rf_m} (hg : g_X14_triangle w m a1 a2 a3 a4 = some r) : rf_Con j_X14_triangle 2 (rf_sh w) [.ref 206, .int a1, .int a2, .int a3, .int a4] (rf_MM w m) (some (.int r.1)) (rf_MM w r.2) := by
  refine rf_con j_X14_triangle 2 ⟨by decide +kernel, rfl, Nat.le_of_ble_eq_true rfl⟩ (fun K C hE => ?_)
  unfold g_X14_triangle at hg
  show rf_V 8 (rf_sh w) K 0 0 0 ([(0, .ref 206), (1, .int a1), (2, .int a2), (3, .int a3), (4, .int a4)], [], rf_MM w m)
  refine rf_seg C [(.aload 0, 1), (.iconst 0, 1), (.multianewarray 14 0, 3), (.aload 0, 1), (.iload 1, 1)] (pc' := 7) (S' := ([(0, .ref 206), (1, .int a1), (2, .int a2), (3, .int a3), (4, .int a4)], [.int a1, .ref 206], rf_MM w (rf_i m 206 0 0))) (by decide +kernel) rfl trivial ?_
  obtain ⟨y0, m0, hc0, hg⟩ := rf_b_some hg
  refine rf_callv C rf_fit0 j_X14_isAngle (ci := 14) (As := [.int a1]) (rest := []) mw_X14_isAngle (c_X14_isAngle hc0) (by decide) rfl (by decide) lk_14_402 rfl rfl (Nat.le_of_ble_eq_true rfl) (by decide +kernel) ?_
  show rf_V 8 (rf_sh w) K 0 0 10 ([(0, .ref 206), (1, .int a1), (2, .int a2), (3, .int a3), (4, .int a4)], [.int y0], rf_MM w m0)
  refine rf_if_eq C 19 29 (by decide +kernel) (fun hc => ?_) (fun hc => ?_)
  · replace hg := (if_pos hc).symm.trans hg
    refine rf_seg C [(.aload 0, 1), (.iconst 1, 1)] (pc' := 31) (S' := ([(0, .ref 206), (1, .int a1), (2, .int a2), (3, .int a3), (4, .int a4)], [.int 1, .ref 206], rf_MM w m0)) (by decide +kernel) rfl trivial ?_
    obtain ⟨y1, m1, hc1, hg⟩ := rf_b_some hg
    refine rf_callv C rf_fit0 j_X14_refused (ci := 14) (As := [.int 1]) (rest := []) mw_X14_refused (c_X14_refused hc1) (by decide) rfl (by decide) lk_14_353 rfl rfl (Nat.le_of_ble_eq_true rfl) (by decide +kernel) ?_
    show rf_V 8 (rf_sh w) K 0 0 34 ([(0, .ref 206), (1, .int a1), (2, .int a2), (3, .int a3), (4, .int a4)], [.int y1], rf_MM w m1)
    obtain rfl := Option.some.inj hg
    exact rf_iret C hE (by decide +kernel)
  · replace hg := (if_neg hc).symm.trans hg
    refine rf_seg C [(.aload 0, 1), (.iload 2, 1)] (pc' := 15) (S' := ([(0, .ref 206), (1, .int a1), (2, .int a2), (3, .int a3), (4, .int a4)], [.int a2, .ref 206], rf_MM w m0)) (by decide +kernel) rfl trivial ?_
    obtain ⟨y2, m2, hc2, hg⟩ := rf_b_some hg
    refine rf_callv C rf_fit0 j_X14_isAngle (ci := 14) (As := [.int a2]) (rest := []) mw_X14_isAngle (c_X14_isAngle hc2) (by decide) rfl (by decide) lk_14_402 rfl rfl (Nat.le_of_ble_eq_true rfl) (by decide +kernel) ?_
    show rf_V 8 (rf_sh w) K 0 0 18 ([(0, .ref 206), (1, .int a1), (2, .int a2), (3, .int a3), (4, .int a4)], [.int y2], rf_MM w m2)
    refine rf_if_eq C 11 29 (by decide +kernel) (fun hc => ?_) (fun hc => ?_)
    · replace hg := (if_pos hc).symm.trans hg
      refine rf_seg C [(.aload 0, 1), (.iconst 1, 1)] (pc' := 31) (S' := ([(0, .ref 206), (1, .int a1), (2, .int a2), (3, .int a3), (4, .int a4)], [.int 1, .ref 206], rf_MM w m2)) (by decide +kernel) rfl trivial ?_
      obtain ⟨y3, m3, hc3, hg⟩ := rf_b_some hg
      refine rf_callv C rf_fit0 j_X14_refused (ci := 14) (As := [.int 1]) (rest := []) mw_X14_refused (c_X14_refused hc3) (by decide) rfl (by decide) lk_14_353 rfl rfl (Nat.le_of_ble_eq_true rfl) (by decide +kernel) ?_
      show rf_V 8 (rf_sh w) K 0 0 34 ([(0, .ref 206), (1, .int a1), (2, .int a2), (3, .int a3), (4, .int a4)], [.int y3], rf_MM w m3)
      obtain rfl := Option.some.inj hg
      exact rf_iret C hE (by decide +kernel)
    · replace hg := (if_neg hc).symm.trans hg
      refine rf_seg C [(.aload 0, 1), (.iload 3, 1)] (pc' := 23) (S' := ([(0, .ref 206), (1, .int a1), (2, .int a2), (3, .int a3), (4, .int a4)], [.int a3, .ref 206], rf_MM w m2)) (by decide +kernel) rfl trivial ?_
      obtain ⟨y4, m4, hc4, hg⟩ := rf_b_some hg
      refine rf_callv C rf_fit0 j_X14_isAngle (ci := 14) (As := [.int a3]) (rest := []) mw_X14_isAngle (c_X14_isAngle hc4) (by decide) rfl (by decide) lk_14_402 rfl rfl (Nat.le_of_ble_eq_true rfl) (by decide +kernel) ?_
      show rf_V 8 (rf_sh w) K 0 0 26 ([(0, .ref 206), (1, .int a1), (2, .int a2), (3, .int a3), (4, .int a4)], [.int y4], rf_MM w m4)
      refine rf_if_ne C 9 35 (by decide +kernel) (fun hc => ?_) (fun hc => ?_)
      · replace hg := (if_neg hc).symm.trans hg
        refine rf_seg C [(.iload 4, 2), (.iconst 0, 1), (.iconst 9999, 3)] (pc' := 41) (S' := ([(0, .ref 206), (1, .int a1), (2, .int a2), (3, .int a3), (4, .int a4)], [.int 9999, .int 0, .int a4], rf_MM w m4)) (by decide +kernel) rfl trivial ?_
        obtain ⟨y5, m5, hc5, hg⟩ := rf_b_some hg
        refine rf_calls C rf_fit0 j_X14_in (As := [.int a4, .int 0, .int 9999]) (rest := []) mw_X14_in (c_X14_in hc5) (by decide) lk_14_345 rfl rfl (Nat.le_of_ble_eq_true rfl) (by decide +kernel) ?_
        show rf_V 8 (rf_sh w) K 0 0 44 ([(0, .ref 206), (1, .int a1), (2, .int a2), (3, .int a3), (4, .int a4)], [.int y5], rf_MM w m5)
        refine rf_if_ne C 9 53 (by decide +kernel) (fun hc => ?_) (fun hc => ?_)
        · replace hg := (if_neg hc).symm.trans hg
          obtain ⟨q6, hg⟩ := rf_g_some hg
          refine rf_seg C [(.aload 0, 1), (.invokeinterface 14 21, 3), (.iload 1, 1), (.iaload, 1)] (pc' := 59) (S' := ([(0, .ref 206), (1, .int a1), (2, .int a2), (3, .int a3), (4, .int a4)], [.int (m5.1 217 (Int32.toNatClampNeg a1))], rf_MM w m5)) (by decide +kernel) rfl (rf_in_of q6) ?_
          obtain ⟨x7, hx7, hg⟩ := rf_vi_some hg
          refine rf_vi_top hx7 ?_
          obtain ⟨q8, hg⟩ := rf_g_some hg
          refine rf_seg C [(.istore 5, 2), (.aload 0, 1), (.invokeinterface 14 21, 3), (.iload 2, 1), (.iaload, 1)] (pc' := 67) (S' := ([(5, .int x7), (0, .ref 206), (1, .int a1), (2, .int a2), (3, .int a3), (4, .int a4)], [.int (m5.1 217 (Int32.toNatClampNeg a2))], rf_MM w m5)) (by decide +kernel) rfl (rf_in_of q8) ?_
          obtain ⟨x9, hx9, hg⟩ := rf_vi_some hg
          refine rf_vi_top hx9 ?_
          obtain ⟨q10, hg⟩ := rf_g_some hg
          refine rf_seg C [(.istore 6, 2), (.aload 0, 1), (.invokeinterface 14 21, 3), (.iload 3, 1), (.iaload, 1)] (pc' := 75) (S' := ([(6, .int x9), (5, .int x7), (0, .ref 206), (1, .int a1), (2, .int a2), (3, .int a3), (4, .int a4)], [.int (m5.1 217 (Int32.toNatClampNeg a3))], rf_MM w m5)) (by decide +kernel) rfl (rf_in_of q10) ?_
          obtain ⟨x11, hx11, hg⟩ := rf_vi_some hg
          refine rf_vi_top hx11 ?_
          refine rf_seg C [(.istore 7, 2), (.iload 5, 2), (.iload 6, 2)] (pc' := 81) (S' := ([(7, .int x11), (6, .int x9), (5, .int x7), (0, .ref 206), (1, .int a1), (2, .int a2), (3, .int a3), (4, .int a4)], [.int x9, .int x7], rf_MM w m5)) (by decide +kernel) rfl trivial ?_
          refine rf_icmp_eq C 53 134 (by decide +kernel) (fun hc => ?_) (fun hc => ?_)
          · replace hg := (if_pos hc).symm.trans hg
            refine rf_seg C [(.aload 0, 1), (.iconst 5, 1)] (pc' := 136) (S' := ([(7, .int x11), (6, .int x9), (5, .int x7), (0, .ref 206), (1, .int a1), (2, .int a2), (3, .int a3), (4, .int a4)], [.int 5, .ref 206], rf_MM w m5)) (by decide +kernel) rfl trivial ?_
            obtain ⟨y12, m12, hc12, hg⟩ := rf_b_some hg
            refine rf_callv C rf_fit0 j_X14_refused (ci := 14) (As := [.int 5]) (rest := []) mw_X14_refused (c_X14_refused hc12) (by decide) rfl (by decide) lk_14_353 rfl rfl (Nat.le_of_ble_eq_true rfl) (by decide +kernel) ?_
            show rf_V 8 (rf_sh w) K 0 0 139 ([(7, .int x11), (6, .int x9), (5, .int x7), (0, .ref 206), (1, .int a1), (2, .int a2), (3, .int a3), (4, .int a4)], [.int y12], rf_MM w m12)
            obtain rfl := Option.some.inj hg
            exact rf_iret C hE (by decide +kernel)
          · replace hg := (if_neg hc).symm.trans hg
            refine rf_seg C [(.iload 6, 2), (.iload 7, 2)] (pc' := 88) (S' := ([(7, .int x11), (6, .int x9), (5, .int x7), (0, .ref 206), (1, .int a1), (2, .int a2), (3, .int a3), (4, .int a4)], [.int x11, .int x9], rf_MM w m5)) (by decide +kernel) rfl trivial ?_
            refine rf_icmp_eq C 46 134 (by decide +kernel) (fun hc => ?_) (fun hc => ?_)
            · replace hg := (if_pos hc).symm.trans hg
              refine rf_seg C [(.aload 0, 1), (.iconst 5, 1)] (pc' := 136) (S' := ([(7, .int x11), (6, .int x9), (5, .int x7), (0, .ref 206), (1, .int a1), (2, .int a2), (3, .int a3), (4, .int a4)], [.int 5, .ref 206], rf_MM w m5)) (by decide +kernel) rfl trivial ?_
              obtain ⟨y13, m13, hc13, hg⟩ := rf_b_some hg
              refine rf_callv C rf_fit0 j_X14_refused (ci := 14) (As := [.int 5]) (rest := []) mw_X14_refused (c_X14_refused hc13) (by decide) rfl (by decide) lk_14_353 rfl rfl (Nat.le_of_ble_eq_true rfl) (by decide +kernel) ?_
              show rf_V 8 (rf_sh w) K 0 0 139 ([(7, .int x11), (6, .int x9), (5, .int x7), (0, .ref 206), (1, .int a1), (2, .int a2), (3, .int a3), (4, .int a4)], [.int y13], rf_MM w m13)
              obtain rfl := Option.some.inj hg
              exact rf_iret C hE (by decide +kernel)
            · replace hg := (if_neg hc).symm.trans hg
              refine rf_seg C [(.iload 7, 2), (.iload 5, 2)] (pc' := 95) (S' := ([(7, .int x11), (6, .int x9), (5, .int x7), (0, .ref 206), (1, .int a1), (2, .int a2), (3, .int a3), (4, .int a4)], [.int x7, .int x11], rf_MM w m5)) (by decide +kernel) rfl trivial ?_
              refine rf_icmp_eq C 39 134 (by decide +kernel) (fun hc => ?_) (fun hc => ?_)
              · replace hg := (if_pos hc).symm.trans hg
                refine rf_seg C [(.aload 0, 1), (.iconst 5, 1)] (pc' := 136) (S' := ([(7, .int x11), (6, .int x9), (5, .int x7), (0, .ref 206), (1, .int a1), (2, .int a2), (3, .int a3), (4, .int a4)], [.int 5, .ref 206], rf_MM w m5)) (by decide +kernel) rfl trivial ?_
                obtain ⟨y14, m14, hc14, hg⟩ := rf_b_some hg
                refine rf_callv C rf_fit0 j_X14_refused (ci := 14) (As := [.int 5]) (rest := []) mw_X14_refused (c_X14_refused hc14) (by decide) rfl (by decide) lk_14_353 rfl rfl (Nat.le_of_ble_eq_true rfl) (by decide +kernel) ?_
                show rf_V 8 (rf_sh w) K 0 0 139 ([(7, .int x11), (6, .int x9), (5, .int x7), (0, .ref 206), (1, .int a1), (2, .int a2), (3, .int a3), (4, .int a4)], [.int y14], rf_MM w m14)
                obtain rfl := Option.some.inj hg
                exact rf_iret C hE (by decide +kernel)
              · replace hg := (if_neg hc).symm.trans hg
                refine rf_seg C [(.aload 0, 1), (.iload 1, 1), (.iload 6, 2), (.iload 7, 2)] (pc' := 104) (S' := ([(7, .int x11), (6, .int x9), (5, .int x7), (0, .ref 206), (1, .int a1), (2, .int a2), (3, .int a3), (4, .int a4)], [.int x11, .int x9, .int a1, .ref 206], rf_MM w m5)) (by decide +kernel) rfl trivial ?_
                obtain ⟨y15, m15, hc15, hg⟩ := rf_b_some hg
                refine rf_callv C rf_fit0 j_X14_isBetween (ci := 14) (As := [.int a1, .int x9, .int x11]) (rest := []) mw_X14_isBetween (c_X14_isBetween hc15) (by decide) rfl (by decide) lk_14_692 rfl rfl (Nat.le_of_ble_eq_true rfl) (by decide +kernel) ?_
                show rf_V 8 (rf_sh w) K 0 0 107 ([(7, .int x11), (6, .int x9), (5, .int x7), (0, .ref 206), (1, .int a1), (2, .int a2), (3, .int a3), (4, .int a4)], [.int y15], rf_MM w m15)
                refine rf_if_eq C 27 134 (by decide +kernel) (fun hc => ?_) (fun hc => ?_)
                · replace hg := (if_pos hc).symm.trans hg
                  refine rf_seg C [(.aload 0, 1), (.iconst 5, 1)] (pc' := 136) (S' := ([(7, .int x11), (6, .int x9), (5, .int x7), (0, .ref 206), (1, .int a1), (2, .int a2), (3, .int a3), (4, .int a4)], [.int 5, .ref 206], rf_MM w m15)) (by decide +kernel) rfl trivial ?_
                  obtain ⟨y16, m16, hc16, hg⟩ := rf_b_some hg
                  refine rf_callv C rf_fit0 j_X14_refused (ci := 14) (As := [.int 5]) (rest := []) mw_X14_refused (c_X14_refused hc16) (by decide) rfl (by decide) lk_14_353 rfl rfl (Nat.le_of_ble_eq_true rfl) (by decide +kernel) ?_
                  show rf_V 8 (rf_sh w) K 0 0 139 ([(7, .int x11), (6, .int x9), (5, .int x7), (0, .ref 206), (1, .int a1), (2, .int a2), (3, .int a3), (4, .int a4)], [.int y16], rf_MM w m16)
                  obtain rfl := Option.some.inj hg
                  exact rf_iret C hE (by decide +kernel)
                · replace hg := (if_neg hc).symm.trans hg
                  refine rf_seg C [(.aload 0, 1), (.iload 2, 1), (.iload 5, 2), (.iload 7, 2)] (pc' := 116) (S' := ([(7, .int x11), (6, .int x9), (5, .int x7), (0, .ref 206), (1, .int a1), (2, .int a2), (3, .int a3), (4, .int a4)], [.int x11, .int x7, .int a2, .ref 206], rf_MM w m15)) (by decide +kernel) rfl trivial ?_
                  obtain ⟨y17, m17, hc17, hg⟩ := rf_b_some hg
                  refine rf_callv C rf_fit0 j_X14_isBetween (ci := 14) (As := [.int a2, .int x7, .int x11]) (rest := []) mw_X14_isBetween (c_X14_isBetween hc17) (by decide) rfl (by decide) lk_14_692 rfl rfl (Nat.le_of_ble_eq_true rfl) (by decide +kernel) ?_
                  show rf_V 8 (rf_sh w) K 0 0 119 ([(7, .int x11), (6, .int x9), (5, .int x7), (0, .ref 206), (1, .int a1), (2, .int a2), (3, .int a3), (4, .int a4)], [.int y17], rf_MM w m17)
                  refine rf_if_eq C 15 134 (by decide +kernel) (fun hc => ?_) (fun hc => ?_)
                  · replace hg := (if_pos hc).symm.trans hg
                    refine rf_seg C [(.aload 0, 1), (.iconst 5, 1)] (pc' := 136) (S' := ([(7, .int x11), (6, .int x9), (5, .int x7), (0, .ref 206), (1, .int a1), (2, .int a2), (3, .int a3), (4, .int a4)], [.int 5, .ref 206], rf_MM w m17)) (by decide +kernel) rfl trivial ?_
                    obtain ⟨y18, m18, hc18, hg⟩ := rf_b_some hg
                    refine rf_callv C rf_fit0 j_X14_refused (ci := 14) (As := [.int 5]) (rest := []) mw_X14_refused (c_X14_refused hc18) (by decide) rfl (by decide) lk_14_353 rfl rfl (Nat.le_of_ble_eq_true rfl) (by decide +kernel) ?_
                    show rf_V 8 (rf_sh w) K 0 0 139 ([(7, .int x11), (6, .int x9), (5, .int x7), (0, .ref 206), (1, .int a1), (2, .int a2), (3, .int a3), (4, .int a4)], [.int y18], rf_MM w m18)
                    obtain rfl := Option.some.inj hg
                    exact rf_iret C hE (by decide +kernel)
                  · replace hg := (if_neg hc).symm.trans hg
                    refine rf_seg C [(.aload 0, 1), (.iload 3, 1), (.iload 5, 2), (.iload 6, 2)] (pc' := 128) (S' := ([(7, .int x11), (6, .int x9), (5, .int x7), (0, .ref 206), (1, .int a1), (2, .int a2), (3, .int a3), (4, .int a4)], [.int x9, .int x7, .int a3, .ref 206], rf_MM w m17)) (by decide +kernel) rfl trivial ?_
                    obtain ⟨y19, m19, hc19, hg⟩ := rf_b_some hg
                    refine rf_callv C rf_fit0 j_X14_isBetween (ci := 14) (As := [.int a3, .int x7, .int x9]) (rest := []) mw_X14_isBetween (c_X14_isBetween hc19) (by decide) rfl (by decide) lk_14_692 rfl rfl (Nat.le_of_ble_eq_true rfl) (by decide +kernel) ?_
                    show rf_V 8 (rf_sh w) K 0 0 131 ([(7, .int x11), (6, .int x9), (5, .int x7), (0, .ref 206), (1, .int a1), (2, .int a2), (3, .int a3), (4, .int a4)], [.int y19], rf_MM w m19)
                    refine rf_if_ne C 9 140 (by decide +kernel) (fun hc => ?_) (fun hc => ?_)
                    · replace hg := (if_neg hc).symm.trans hg
                      refine rf_seg C [(.aload 0, 1), (.invokeinterface 14 64, 3), (.iconst 30, 2)] (pc' := 146) (S' := ([(7, .int x11), (6, .int x9), (5, .int x7), (0, .ref 206), (1, .int a1), (2, .int a2), (3, .int a3), (4, .int a4)], [.int 30, .int (m19.1 206 64)], rf_MM w m19)) (by decide +kernel) rfl trivial ?_
                      refine rf_icmp_ne C 9 155 (by decide +kernel) (fun hc => ?_) (fun hc => ?_)
                      · replace hg := (if_neg hc).symm.trans hg
                        obtain ⟨q20, hg⟩ := rf_g_some hg
                        obtain ⟨q21, hg⟩ := rf_g_some hg
                        obtain ⟨q22, hg⟩ := rf_g_some hg
                        obtain ⟨q23, hg⟩ := rf_g_some hg
                        refine rf_seg C [(.aload 0, 1), (.invokeinterface 14 66, 3), (.iconst 3, 1), (.aload 0, 1), (.invokeinterface 14 64, 3), (.imul, 1), (.iload 1, 1), (.iastore, 1), (.aload 0, 1), (.invokeinterface 14 66, 3), (.iconst 3, 1), (.aload 0, 1), (.invokeinterface 14 64, 3), (.imul, 1), (.iconst 1, 1), (.iadd, 1), (.iload 2, 1), (.iastore, 1), (.aload 0, 1), (.invokeinterface 14 66, 3), (.iconst 3, 1), (.aload 0, 1), (.invokeinterface 14 64, 3), (.imul, 1), (.iconst 2, 1), (.iadd, 1), (.iload 3, 1), (.iastore, 1), (.aload 0, 1), (.invokeinterface 14 67, 3), (.aload 0, 1), (.invokeinterface 14 64, 3), (.iload 4, 2), (.iastore, 1), (.aload 0, 1), (.dup, 1), (.invokeinterface 14 64, 3), (.iconst 1, 1), (.iadd, 1), (.multianewarray 14 64, 3), (.aload 0, 1), (.aload 0, 1), (.invokeinterface 14 64, 3), (.iconst 1, 1), (.isub, 1)] (pc' := 223) (S' := ([(7, .int x11), (6, .int x9), (5, .int x7), (0, .ref 206), (1, .int a1), (2, .int a2), (3, .int a3), (4, .int a4)], [.int (((rf_i (rf_i (rf_i (rf_i (rf_i m19 243 (Int32.toNatClampNeg (3 * (m19.1 206 64))) a1) 243 (Int32.toNatClampNeg ((3 * ((rf_i m19 243 (Int32.toNatClampNeg (3 * (m19.1 206 64))) a1).1 206 64)) + 1)) a2) 243 (Int32.toNatClampNeg ((3 * ((rf_i (rf_i m19 243 (Int32.toNatClampNeg (3 * (m19.1 206 64))) a1) 243 (Int32.toNatClampNeg ((3 * ((rf_i m19 243 (Int32.toNatClampNeg (3 * (m19.1 206 64))) a1).1 206 64)) + 1)) a2).1 206 64)) + 2)) a3) 244 (Int32.toNatClampNeg ((rf_i (rf_i (rf_i m19 243 (Int32.toNatClampNeg (3 * (m19.1 206 64))) a1) 243 (Int32.toNatClampNeg ((3 * ((rf_i m19 243 (Int32.toNatClampNeg (3 * (m19.1 206 64))) a1).1 206 64)) + 1)) a2) 243 (Int32.toNatClampNeg ((3 * ((rf_i (rf_i m19 243 (Int32.toNatClampNeg (3 * (m19.1 206 64))) a1) 243 (Int32.toNatClampNeg ((3 * ((rf_i m19 243 (Int32.toNatClampNeg (3 * (m19.1 206 64))) a1).1 206 64)) + 1)) a2).1 206 64)) + 2)) a3).1 206 64)) a4) 206 64 (((rf_i (rf_i (rf_i (rf_i m19 243 (Int32.toNatClampNeg (3 * (m19.1 206 64))) a1) 243 (Int32.toNatClampNeg ((3 * ((rf_i m19 243 (Int32.toNatClampNeg (3 * (m19.1 206 64))) a1).1 206 64)) + 1)) a2) 243 (Int32.toNatClampNeg ((3 * ((rf_i (rf_i m19 243 (Int32.toNatClampNeg (3 * (m19.1 206 64))) a1) 243 (Int32.toNatClampNeg ((3 * ((rf_i m19 243 (Int32.toNatClampNeg (3 * (m19.1 206 64))) a1).1 206 64)) + 1)) a2).1 206 64)) + 2)) a3) 244 (Int32.toNatClampNeg ((rf_i (rf_i (rf_i m19 243 (Int32.toNatClampNeg (3 * (m19.1 206 64))) a1) 243 (Int32.toNatClampNeg ((3 * ((rf_i m19 243 (Int32.toNatClampNeg (3 * (m19.1 206 64))) a1).1 206 64)) + 1)) a2) 243 (Int32.toNatClampNeg ((3 * ((rf_i (rf_i m19 243 (Int32.toNatClampNeg (3 * (m19.1 206 64))) a1) 243 (Int32.toNatClampNeg ((3 * ((rf_i m19 243 (Int32.toNatClampNeg (3 * (m19.1 206 64))) a1).1 206 64)) + 1)) a2).1 206 64)) + 2)) a3).1 206 64)) a4).1 206 64) + 1)).1 206 64) - 1), .ref 206], rf_MM w (rf_i (rf_i (rf_i (rf_i (rf_i m19 243 (Int32.toNatClampNeg (3 * (m19.1 206 64))) a1) 243 (Int32.toNatClampNeg ((3 * ((rf_i m19 243 (Int32.toNatClampNeg (3 * (m19.1 206 64))) a1).1 206 64)) + 1)) a2) 243 (Int32.toNatClampNeg ((3 * ((rf_i (rf_i m19 243 (Int32.toNatClampNeg (3 * (m19.1 206 64))) a1) 243 (Int32.toNatClampNeg ((3 * ((rf_i m19 243 (Int32.toNatClampNeg (3 * (m19.1 206 64))) a1).1 206 64)) + 1)) a2).1 206 64)) + 2)) a3) 244 (Int32.toNatClampNeg ((rf_i (rf_i (rf_i m19 243 (Int32.toNatClampNeg (3 * (m19.1 206 64))) a1) 243 (Int32.toNatClampNeg ((3 * ((rf_i m19 243 (Int32.toNatClampNeg (3 * (m19.1 206 64))) a1).1 206 64)) + 1)) a2) 243 (Int32.toNatClampNeg ((3 * ((rf_i (rf_i m19 243 (Int32.toNatClampNeg (3 * (m19.1 206 64))) a1) 243 (Int32.toNatClampNeg ((3 * ((rf_i m19 243 (Int32.toNatClampNeg (3 * (m19.1 206 64))) a1).1 206 64)) + 1)) a2).1 206 64)) + 2)) a3).1 206 64)) a4) 206 64 (((rf_i (rf_i (rf_i (rf_i m19 243 (Int32.toNatClampNeg (3 * (m19.1 206 64))) a1) 243 (Int32.toNatClampNeg ((3 * ((rf_i m19 243 (Int32.toNatClampNeg (3 * (m19.1 206 64))) a1).1 206 64)) + 1)) a2) 243 (Int32.toNatClampNeg ((3 * ((rf_i (rf_i m19 243 (Int32.toNatClampNeg (3 * (m19.1 206 64))) a1) 243 (Int32.toNatClampNeg ((3 * ((rf_i m19 243 (Int32.toNatClampNeg (3 * (m19.1 206 64))) a1).1 206 64)) + 1)) a2).1 206 64)) + 2)) a3) 244 (Int32.toNatClampNeg ((rf_i (rf_i (rf_i m19 243 (Int32.toNatClampNeg (3 * (m19.1 206 64))) a1) 243 (Int32.toNatClampNeg ((3 * ((rf_i m19 243 (Int32.toNatClampNeg (3 * (m19.1 206 64))) a1).1 206 64)) + 1)) a2) 243 (Int32.toNatClampNeg ((3 * ((rf_i (rf_i m19 243 (Int32.toNatClampNeg (3 * (m19.1 206 64))) a1) 243 (Int32.toNatClampNeg ((3 * ((rf_i m19 243 (Int32.toNatClampNeg (3 * (m19.1 206 64))) a1).1 206 64)) + 1)) a2).1 206 64)) + 2)) a3).1 206 64)) a4).1 206 64) + 1)))) (by decide +kernel) rfl (by exact ⟨(rf_in_of q20), (rf_in_of q21), (rf_in_of q22), (rf_in_of q23)⟩) ?_
                        obtain ⟨y24, m24, hc24, hg⟩ := rf_b_some hg
                        refine rf_callv C rf_fit0 j_X14_done (ci := 14) (As := [.int (((rf_i (rf_i (rf_i (rf_i (rf_i m19 243 (Int32.toNatClampNeg (3 * (m19.1 206 64))) a1) 243 (Int32.toNatClampNeg ((3 * ((rf_i m19 243 (Int32.toNatClampNeg (3 * (m19.1 206 64))) a1).1 206 64)) + 1)) a2) 243 (Int32.toNatClampNeg ((3 * ((rf_i (rf_i m19 243 (Int32.toNatClampNeg (3 * (m19.1 206 64))) a1) 243 (Int32.toNatClampNeg ((3 * ((rf_i m19 243 (Int32.toNatClampNeg (3 * (m19.1 206 64))) a1).1 206 64)) + 1)) a2).1 206 64)) + 2)) a3) 244 (Int32.toNatClampNeg ((rf_i (rf_i (rf_i m19 243 (Int32.toNatClampNeg (3 * (m19.1 206 64))) a1) 243 (Int32.toNatClampNeg ((3 * ((rf_i m19 243 (Int32.toNatClampNeg (3 * (m19.1 206 64))) a1).1 206 64)) + 1)) a2) 243 (Int32.toNatClampNeg ((3 * ((rf_i (rf_i m19 243 (Int32.toNatClampNeg (3 * (m19.1 206 64))) a1) 243 (Int32.toNatClampNeg ((3 * ((rf_i m19 243 (Int32.toNatClampNeg (3 * (m19.1 206 64))) a1).1 206 64)) + 1)) a2).1 206 64)) + 2)) a3).1 206 64)) a4) 206 64 (((rf_i (rf_i (rf_i (rf_i m19 243 (Int32.toNatClampNeg (3 * (m19.1 206 64))) a1) 243 (Int32.toNatClampNeg ((3 * ((rf_i m19 243 (Int32.toNatClampNeg (3 * (m19.1 206 64))) a1).1 206 64)) + 1)) a2) 243 (Int32.toNatClampNeg ((3 * ((rf_i (rf_i m19 243 (Int32.toNatClampNeg (3 * (m19.1 206 64))) a1) 243 (Int32.toNatClampNeg ((3 * ((rf_i m19 243 (Int32.toNatClampNeg (3 * (m19.1 206 64))) a1).1 206 64)) + 1)) a2).1 206 64)) + 2)) a3) 244 (Int32.toNatClampNeg ((rf_i (rf_i (rf_i m19 243 (Int32.toNatClampNeg (3 * (m19.1 206 64))) a1) 243 (Int32.toNatClampNeg ((3 * ((rf_i m19 243 (Int32.toNatClampNeg (3 * (m19.1 206 64))) a1).1 206 64)) + 1)) a2) 243 (Int32.toNatClampNeg ((3 * ((rf_i (rf_i m19 243 (Int32.toNatClampNeg (3 * (m19.1 206 64))) a1) 243 (Int32.toNatClampNeg ((3 * ((rf_i m19 243 (Int32.toNatClampNeg (3 * (m19.1 206 64))) a1).1 206 64)) + 1)) a2).1 206 64)) + 2)) a3).1 206 64)) a4).1 206 64) + 1)).1 206 64) - 1)]) (rest := []) mw_X14_done (c_X14_done hc24) (by decide) rfl (by decide) lk_14_357 rfl rfl (Nat.le_of_ble_eq_true rfl) (by decide +kernel) ?_
                        show rf_V 8 (rf_sh w) K 0 0 226 ([(7, .int x11), (6, .int x9), (5, .int x7), (0, .ref 206), (1, .int a1), (2, .int a2), (3, .int a3), (4, .int a4)], [.int y24], rf_MM w m24)
                        obtain rfl := Option.some.inj hg
                        exact rf_iret C hE (by decide +kernel)
                      · replace hg := (if_pos hc).symm.trans hg
                        refine rf_seg C [(.aload 0, 1), (.iconst 3, 1)] (pc' := 151) (S' := ([(7, .int x11), (6, .int x9), (5, .int x7), (0, .ref 206), (1, .int a1), (2, .int a2), (3, .int a3), (4, .int a4)], [.int 3, .ref 206], rf_MM w m19)) (by decide +kernel) rfl trivial ?_
                        obtain ⟨y25, m25, hc25, hg⟩ := rf_b_some hg
                        refine rf_callv C rf_fit0 j_X14_refused (ci := 14) (As := [.int 3]) (rest := []) mw_X14_refused (c_X14_refused hc25) (by decide) rfl (by decide) lk_14_353 rfl rfl (Nat.le_of_ble_eq_true rfl) (by decide +kernel) ?_
                        show rf_V 8 (rf_sh w) K 0 0 154 ([(7, .int x11), (6, .int x9), (5, .int x7), (0, .ref 206), (1, .int a1), (2, .int a2), (3, .int a3), (4, .int a4)], [.int y25], rf_MM w m25)
                        obtain rfl := Option.some.inj hg
                        exact rf_iret C hE (by decide +kernel)
                    · replace hg := (if_pos hc).symm.trans hg
                      refine rf_seg C [(.aload 0, 1), (.iconst 5, 1)] (pc' := 136) (S' := ([(7, .int x11), (6, .int x9), (5, .int x7), (0, .ref 206), (1, .int a1), (2, .int a2), (3, .int a3), (4, .int a4)], [.int 5, .ref 206], rf_MM w m19)) (by decide +kernel) rfl trivial ?_
                      obtain ⟨y26, m26, hc26, hg⟩ := rf_b_some hg
                      refine rf_callv C rf_fit0 j_X14_refused (ci := 14) (As := [.int 5]) (rest := []) mw_X14_refused (c_X14_refused hc26) (by decide) rfl (by decide) lk_14_353 rfl rfl (Nat.le_of_ble_eq_true rfl) (by decide +kernel) ?_
                      show rf_V 8 (rf_sh w) K 0 0 139 ([(7, .int x11), (6, .int x9), (5, .int x7), (0, .ref 206), (1, .int a1), (2, .int a2), (3, .int a3), (4, .int a4)], [.int y26], rf_MM w m26)
                      obtain rfl := Option.some.inj hg
                      exact rf_iret C hE (by decide +kernel)
        · replace hg := (if_pos hc).symm.trans hg
          refine rf_seg C [(.aload 0, 1), (.iconst 2, 1)] (pc' := 49) (S' := ([(0, .ref 206), (1, .int a1), (2, .int a2), (3, .int a3), (4, .int a4)], [.int 2, .ref 206], rf_MM w m5)) (by decide +kernel) rfl trivial ?_
          obtain ⟨y27, m27, hc27, hg⟩ := rf_b_some hg
          refine rf_callv C rf_fit0 j_X14_refused (ci := 14) (As := [.int 2]) (rest := []) mw_X14_refused (c_X14_refused hc27) (by decide) rfl (by decide) lk_14_353 rfl rfl (Nat.le_of_ble_eq_true rfl) (by decide +kernel) ?_
          show rf_V 8 (rf_sh w) K 0 0 52 ([(0, .ref 206), (1, .int a1), (2, .int a2), (3, .int a3), (4, .int a4)], [.int y27], rf_MM w m27)
          obtain rfl := Option.some.inj hg
          exact rf_iret C hE (by decide +kernel)
      · replace hg := (if_pos hc).symm.trans hg
        refine rf_seg C [(.aload 0, 1), (.iconst 1, 1)] (pc' := 31) (S' := ([(0, .ref 206), (1, .int a1), (2, .int a2), (3, .int a3), (4, .int a4)], [.int 1, .ref 206], rf_MM w m4)) (by decide +kernel) rfl trivial ?_
        obtain ⟨y28, m28, hc28, hg⟩ := rf_b_some hg
        refine rf_callv C rf_fit0 j_X14_refused (ci := 14) (As := [.int 1]) (rest := []) mw_X14_refused (c_X14_refused hc28) (by decide) rfl (by decide) lk_14_353 rfl rfl (Nat.le_of_ble_eq_true rfl) (by decide +kernel) ?_
        show rf_V 8 (rf_sh w) K 0 0 34 ([(0, .ref 206), (1, .int a1), (2, .int a2), (3, .int a3), (4, .int a4)], [.int y28], rf_MM w m28)
        obtain rfl := Option.some.inj hg
        exact rf_iret C hE (by decide +kernel)
-- X14_round
abbrev j_X14_round : rf_J := (14, yX14_round, cX14_round, 12, (some .int))
theorem mw_X14_round : rf_mv j_X14_round (rf_R 14) 6 := ⟨⟨rf_mem 59 (by decide +kernel), rf_mem 59 (by decide +kernel), rf_mem 0 (by decide +kernel), rf_mem 59 (by decide +kernel)⟩, by decide +kernel, by decide⟩
def g_X14_round_283_b (w : rf_w) (rec283 : Int32 → Int32 → rf_m → Option (Int32 × rf_m)) (a7 : Int32) (a9 : Int32) (m : rf_m) : Option (Int32 × rf_m) := (if a7 ≤ a9 then rf_g (rf_in (m.1 206 65) 12) (rf_b (g_X14_done w (rf_i (rf_i m 246 (Int32.toNatClampNeg (m.1 206 65)) a7) 206 65 (((rf_i m 246 (Int32.toNatClampNeg (m.1 206 65)) a7).1 206 65) + 1)) (((rf_i (rf_i m 246 (Int32.toNatClampNeg (m.1 206 65)) a7) 206 65 (((rf_i m 246 (Int32.toNatClampNeg (m.1 206 65)) a7).1 206 65) + 1)).1 206 65) - 1)) fun y1 m1 => some (y1, m1)) else rf_g (rf_in a9 6) (rf_g (rf_in ((6 * (m.1 206 65)) + a9) 72) (rec283 a7 (a9 + 1) (rf_i m 245 (Int32.toNatClampNeg ((6 * (m.1 206 65)) + a9)) (m.1 247 (Int32.toNatClampNeg a9))))))
def g_X14_round_283 (w : rf_w) : Nat → Int32 → Int32 → rf_m → Option (Int32 × rf_m)
  | 0, _, _, _ => none
  | n + 1, a7, a9, m => g_X14_round_283_b w (g_X14_round_283 w n) a7 a9 m
def g_X14_round_240 (w : rf_w) (rec113 : Int32 → Int32 → Int32 → rf_m → Option (Int32 × rf_m)) (rec206 : Int32 → Int32 → Int32 → Int32 → rf_m → Option (Int32 × rf_m)) (a7 : Int32) (a9 : Int32) (a11 : Int32) (s0 : Int32) (m : rf_m) : Option (Int32 × rf_m) := rec206 a7 s0 a9 (a11 + 1) m
def g_X14_round_239 (w : rf_w) (rec113 : Int32 → Int32 → Int32 → rf_m → Option (Int32 × rf_m)) (rec206 : Int32 → Int32 → Int32 → Int32 → rf_m → Option (Int32 × rf_m)) (a7 : Int32) (a9 : Int32) (a11 : Int32) (m : rf_m) : Option (Int32 × rf_m) := g_X14_round_240 w rec113 rec206 a7 a9 a11 0 m
def g_X14_round_206_b (w : rf_w) (rec113 : Int32 → Int32 → Int32 → rf_m → Option (Int32 × rf_m)) (rec206 : Int32 → Int32 → Int32 → Int32 → rf_m → Option (Int32 × rf_m)) (a7 : Int32) (a8 : Int32) (a9 : Int32) (a11 : Int32) (m : rf_m) : Option (Int32 × rf_m) := (if a9 ≤ a11 then rec113 a7 a8 (a9 + 1) m else (if a8 = 0 then g_X14_round_239 w rec113 rec206 a7 a9 a11 m else rf_g (rf_in a11 6) (rf_g (rf_in a9 6) ((if (m.1 247 (Int32.toNatClampNeg a11)) = (m.1 247 (Int32.toNatClampNeg a9)) then g_X14_round_239 w rec113 rec206 a7 a9 a11 m else g_X14_round_240 w rec113 rec206 a7 a9 a11 1 m)))))
def g_X14_round_206 (w : rf_w) (rec113 : Int32 → Int32 → Int32 → rf_m → Option (Int32 × rf_m)) : Nat → Int32 → Int32 → Int32 → Int32 → rf_m → Option (Int32 × rf_m)
  | 0, _, _, _, _, _ => none
  | n + 1, a7, a8, a9, a11, m => g_X14_round_206_b w rec113 (g_X14_round_206 w rec113 n) a7 a8 a9 a11 m
def g_X14_round_201 (w : rf_w) (rec113 : Int32 → Int32 → Int32 → rf_m → Option (Int32 × rf_m)) (a7 : Int32) (a9 : Int32) (s0 : Int32) (m : rf_m) : Option (Int32 × rf_m) := g_X14_round_206 w rec113 rf_fuel a7 s0 a9 0 m
def g_X14_round_200 (w : rf_w) (rec113 : Int32 → Int32 → Int32 → rf_m → Option (Int32 × rf_m)) (a7 : Int32) (a9 : Int32) (m : rf_m) : Option (Int32 × rf_m) := g_X14_round_201 w rec113 a7 a9 0 m
def g_X14_round_140 (w : rf_w) (rec113 : Int32 → Int32 → Int32 → rf_m → Option (Int32 × rf_m)) (a7 : Int32) (a8 : Int32) (a9 : Int32) (s1 : Int32) (m : rf_m) : Option (Int32 × rf_m) := rf_g (rf_in s1 6) (rf_vi (m.1 247 (Int32.toNatClampNeg s1)) fun x1 => (if a8 = 0 then g_X14_round_200 w rec113 a7 a9 m else rf_g (rf_in a9 6) (rf_g (rf_in (m.1 247 (Int32.toNatClampNeg a9)) 80) (rf_g (rf_in (m.1 247 (Int32.toNatClampNeg 0)) 80) ((if (m.1 217 (Int32.toNatClampNeg (m.1 247 (Int32.toNatClampNeg a9)))) = (m.1 217 (Int32.toNatClampNeg (m.1 247 (Int32.toNatClampNeg 0)))) then rf_g (rf_in a9 6) (rf_g (rf_in (m.1 247 (Int32.toNatClampNeg a9)) 80) (rf_g (rf_in x1 80) ((if (m.1 218 (Int32.toNatClampNeg (m.1 247 (Int32.toNatClampNeg a9)))) = (m.1 219 (Int32.toNatClampNeg x1)) then g_X14_round_201 w rec113 a7 a9 1 m else g_X14_round_200 w rec113 a7 a9 m)))) else g_X14_round_200 w rec113 a7 a9 m))))))
def g_X14_round_113_b (w : rf_w) (rec113 : Int32 → Int32 → Int32 → rf_m → Option (Int32 × rf_m)) (a7 : Int32) (a8 : Int32) (a9 : Int32) (m : rf_m) : Option (Int32 × rf_m) := (if a7 ≤ a9 then (if a8 = 0 then rf_b (g_X14_refused w m 5) fun y1 m1 => some (y1, m1) else (if (m.1 206 65) = 12 then rf_b (g_X14_refused w m 3) fun y0 m0 => some (y0, m0) else g_X14_round_283 w rf_fuel a7 0 m)) else (if a9 = 0 then g_X14_round_140 w rec113 a7 a8 a9 (a7 - 1) m else g_X14_round_140 w rec113 a7 a8 a9 (a9 - 1) m))
def g_X14_round_113 (w : rf_w) : Nat → Int32 → Int32 → Int32 → rf_m → Option (Int32 × rf_m)
  | 0, _, _, _, _ => none
  | n + 1, a7, a8, a9, m => g_X14_round_113_b w (g_X14_round_113 w n) a7 a8 a9 m
def g_X14_round_108 (w : rf_w) (a7 : Int32) (s0 : Int32) (m : rf_m) : Option (Int32 × rf_m) := g_X14_round_113 w rf_fuel a7 s0 0 m
def g_X14_round_97 (w : rf_w) (a7 : Int32) (m : rf_m) : Option (Int32 × rf_m) := (if a7 ≤ 1 then g_X14_round_108 w a7 0 m else g_X14_round_108 w a7 1 m)
def g_X14_round_53_b (w : rf_w) (rec53 : Int32 → rf_m → Option (Int32 × rf_m)) (a7 : Int32) (m : rf_m) : Option (Int32 × rf_m) := (if 6 ≤ a7 then g_X14_round_97 w a7 m else rf_g (rf_in a7 6) ((if (m.1 247 (Int32.toNatClampNeg a7)) = ((-1)) then g_X14_round_97 w a7 m else rf_g (rf_in a7 6) (rf_b (g_X14_isAngle w m (m.1 247 (Int32.toNatClampNeg a7))) fun y2 m2 => (if y2 = 0 then rf_b (g_X14_refused w m2 1) fun y3 m3 => some (y3, m3) else rec53 (a7 + 1) m2)))))
def g_X14_round_53 (w : rf_w) : Nat → Int32 → rf_m → Option (Int32 × rf_m)
  | 0, _, _ => none
  | n + 1, a7, m => g_X14_round_53_b w (g_X14_round_53 w n) a7 m
def g_X14_round (w : rf_w) (m : rf_m) (a1 : Int32) (a2 : Int32) (a3 : Int32) (a4 : Int32) (a5 : Int32) (a6 : Int32) : Option (Int32 × rf_m) := g_X14_round_53 w rf_fuel 0 (rf_i (rf_i (rf_i (rf_i (rf_i (rf_i (rf_i m 206 0 0) 247 (Int32.toNatClampNeg 0) a1) 247 (Int32.toNatClampNeg 1) a2) 247 (Int32.toNatClampNeg 2) a3) 247 (Int32.toNatClampNeg 3) a4) 247 (Int32.toNatClampNeg 4) a5) 247 (Int32.toNatClampNeg 5) a6)
theorem s_X14_round_283_b {w : rf_w} {K : rf_K} {r : Int32 × rf_m} (C : rf_Ctx 14 cX14_round 12 2 (rf_sh w) K) (hE : rf_End (some .int) K (rf_sh w) 0 0 (some (.int r.1)) (rf_MM w r.2)) {rec283 : Int32 → Int32 → rf_m → Option (Int32 × rf_m)} (hr283 : ∀ (a7 : Int32) (a9 : Int32) (m : rf_m), rec283 a7 a9 m = some r → rf_V 12 (rf_sh w) K 0 0 283 ([(0, .ref 206), (7, .int a7), (9, .int a9)], [], rf_MM w m)) (a7 : Int32) (a9 : Int32) (m : rf_m) (hg : g_X14_round_283_b w rec283 a7 a9 m = some r) : rf_V 12 (rf_sh w) K 0 0 283 ([(0, .ref 206), (7, .int a7), (9, .int a9)], [], rf_MM w m) := by
  unfold g_X14_round_283_b at hg
  refine rf_seg C [(.iload 9, 2), (.iload 7, 2)] (pc' := 287) (S' := ([(0, .ref 206), (7, .int a7), (9, .int a9)], [.int a7, .int a9], rf_MM w m)) (by decide +kernel) rfl trivial ?_
  refine rf_icmp_ge C 31 318 (by decide +kernel) (fun hc => ?_) (fun hc => ?_)
  · replace hg := (if_pos hc).symm.trans hg
    obtain ⟨q0, hg⟩ := rf_g_some hg
    refine rf_seg C [(.aload 0, 1), (.invokeinterface 14 69, 3), (.aload 0, 1), (.invokeinterface 14 65, 3), (.iload 7, 2), (.iastore, 1), (.aload 0, 1), (.dup, 1), (.invokeinterface 14 65, 3), (.iconst 1, 1), (.iadd, 1), (.multianewarray 14 65, 3), (.aload 0, 1), (.aload 0, 1), (.invokeinterface 14 65, 3), (.iconst 1, 1), (.isub, 1)] (pc' := 346) (S' := ([(0, .ref 206), (7, .int a7), (9, .int a9)], [.int (((rf_i (rf_i m 246 (Int32.toNatClampNeg (m.1 206 65)) a7) 206 65 (((rf_i m 246 (Int32.toNatClampNeg (m.1 206 65)) a7).1 206 65) + 1)).1 206 65) - 1), .ref 206], rf_MM w (rf_i (rf_i m 246 (Int32.toNatClampNeg (m.1 206 65)) a7) 206 65 (((rf_i m 246 (Int32.toNatClampNeg (m.1 206 65)) a7).1 206 65) + 1)))) (by decide +kernel) rfl (rf_in_of q0) ?_
    obtain ⟨y1, m1, hc1, hg⟩ := rf_b_some hg
    refine rf_callv C rf_fit0 j_X14_done (ci := 14) (As := [.int (((rf_i (rf_i m 246 (Int32.toNatClampNeg (m.1 206 65)) a7) 206 65 (((rf_i m 246 (Int32.toNatClampNeg (m.1 206 65)) a7).1 206 65) + 1)).1 206 65) - 1)]) (rest := []) mw_X14_done (c_X14_done hc1) (by decide) rfl (by decide) lk_14_357 rfl rfl (Nat.le_of_ble_eq_true rfl) (by decide +kernel) ?_
    show rf_V 12 (rf_sh w) K 0 0 349 ([(0, .ref 206), (7, .int a7), (9, .int a9)], [.int y1], rf_MM w m1)
    obtain rfl := Option.some.inj hg
    exact rf_iret C hE (by decide +kernel)
  · replace hg := (if_neg hc).symm.trans hg
    obtain ⟨q2, hg⟩ := rf_g_some hg
    obtain ⟨q3, hg⟩ := rf_g_some hg
    refine rf_seg C [(.aload 0, 1), (.invokeinterface 14 68, 3), (.iconst 6, 2), (.aload 0, 1), (.invokeinterface 14 65, 3), (.imul, 1), (.iload 9, 2), (.iadd, 1), (.aload 0, 1), (.invokeinterface 14 70, 3), (.iload 9, 2), (.iaload, 1), (.iastore, 1), (.iinc 9 1, 3)] (pc' := 315) (S' := ([(9, .int (a9 + 1)), (0, .ref 206), (7, .int a7)], [], rf_MM w (rf_i m 245 (Int32.toNatClampNeg ((6 * (m.1 206 65)) + a9)) (m.1 247 (Int32.toNatClampNeg a9))))) (by decide +kernel) rfl (by exact ⟨(rf_in_of q2), (rf_in_of q3)⟩) ?_
    refine rf_goto C (-32) 283 (by decide +kernel) ?_
    refine rf_few [1, 2, 0] rfl ?_
    exact hr283 a7 (a9 + 1) (rf_i m 245 (Int32.toNatClampNeg ((6 * (m.1 206 65)) + a9)) (m.1 247 (Int32.toNatClampNeg a9))) hg
theorem s_X14_round_283 {w : rf_w} {K : rf_K} {r : Int32 × rf_m} (C : rf_Ctx 14 cX14_round 12 2 (rf_sh w) K) (hE : rf_End (some .int) K (rf_sh w) 0 0 (some (.int r.1)) (rf_MM w r.2)) (n : Nat) : ∀ (a7 : Int32) (a9 : Int32) (m : rf_m), g_X14_round_283 w n a7 a9 m = some r → rf_V 12 (rf_sh w) K 0 0 283 ([(0, .ref 206), (7, .int a7), (9, .int a9)], [], rf_MM w m) := by
  induction n with
  | zero => intro a7 a9 m hg; cases hg
  | succ n ih => intro a7 a9 m hg; exact s_X14_round_283_b C hE ih a7 a9 m hg
theorem s_X14_round_240 {w : rf_w} {K : rf_K} {r : Int32 × rf_m} (C : rf_Ctx 14 cX14_round 12 2 (rf_sh w) K) (hE : rf_End (some .int) K (rf_sh w) 0 0 (some (.int r.1)) (rf_MM w r.2)) {rec113 : Int32 → Int32 → Int32 → rf_m → Option (Int32 × rf_m)} {rec206 : Int32 → Int32 → Int32 → Int32 → rf_m → Option (Int32 × rf_m)} (hr113 : ∀ (a7 : Int32) (a8 : Int32) (a9 : Int32) (m : rf_m), rec113 a7 a8 a9 m = some r → rf_V 12 (rf_sh w) K 0 0 113 ([(0, .ref 206), (7, .int a7), (8, .int a8), (9, .int a9)], [], rf_MM w m)) (hr206 : ∀ (a7 : Int32) (a8 : Int32) (a9 : Int32) (a11 : Int32) (m : rf_m), rec206 a7 a8 a9 a11 m = some r → rf_V 12 (rf_sh w) K 0 0 206 ([(0, .ref 206), (7, .int a7), (8, .int a8), (9, .int a9), (11, .int a11)], [], rf_MM w m)) (a7 : Int32) (a9 : Int32) (a11 : Int32) (s0 : Int32) (m : rf_m) (hg : g_X14_round_240 w rec113 rec206 a7 a9 a11 s0 m = some r) : rf_V 12 (rf_sh w) K 0 0 240 ([(0, .ref 206), (7, .int a7), (9, .int a9), (11, .int a11)], [.int s0], rf_MM w m) := by
  unfold g_X14_round_240 at hg
  refine rf_seg C [(.istore 8, 2), (.iinc 11 1, 3)] (pc' := 245) (S' := ([(11, .int (a11 + 1)), (8, .int s0), (0, .ref 206), (7, .int a7), (9, .int a9)], [], rf_MM w m)) (by decide +kernel) rfl trivial ?_
  refine rf_goto C (-39) 206 (by decide +kernel) ?_
  refine rf_few [2, 3, 1, 4, 0] rfl ?_
  exact hr206 a7 s0 a9 (a11 + 1) m hg
theorem s_X14_round_239 {w : rf_w} {K : rf_K} {r : Int32 × rf_m} (C : rf_Ctx 14 cX14_round 12 2 (rf_sh w) K) (hE : rf_End (some .int) K (rf_sh w) 0 0 (some (.int r.1)) (rf_MM w r.2)) {rec113 : Int32 → Int32 → Int32 → rf_m → Option (Int32 × rf_m)} {rec206 : Int32 → Int32 → Int32 → Int32 → rf_m → Option (Int32 × rf_m)} (hr113 : ∀ (a7 : Int32) (a8 : Int32) (a9 : Int32) (m : rf_m), rec113 a7 a8 a9 m = some r → rf_V 12 (rf_sh w) K 0 0 113 ([(0, .ref 206), (7, .int a7), (8, .int a8), (9, .int a9)], [], rf_MM w m)) (hr206 : ∀ (a7 : Int32) (a8 : Int32) (a9 : Int32) (a11 : Int32) (m : rf_m), rec206 a7 a8 a9 a11 m = some r → rf_V 12 (rf_sh w) K 0 0 206 ([(0, .ref 206), (7, .int a7), (8, .int a8), (9, .int a9), (11, .int a11)], [], rf_MM w m)) (a7 : Int32) (a9 : Int32) (a11 : Int32) (m : rf_m) (hg : g_X14_round_239 w rec113 rec206 a7 a9 a11 m = some r) : rf_V 12 (rf_sh w) K 0 0 239 ([(0, .ref 206), (7, .int a7), (9, .int a9), (11, .int a11)], [], rf_MM w m) := by
  unfold g_X14_round_239 at hg
  refine rf_seg C [(.iconst 0, 1)] (pc' := 240) (S' := ([(0, .ref 206), (7, .int a7), (9, .int a9), (11, .int a11)], [.int 0], rf_MM w m)) (by decide +kernel) rfl trivial ?_
  refine rf_few [0, 1, 2, 3] rfl ?_
  exact s_X14_round_240 C hE hr113 hr206 a7 a9 a11 0 m hg
theorem s_X14_round_206_b {w : rf_w} {K : rf_K} {r : Int32 × rf_m} (C : rf_Ctx 14 cX14_round 12 2 (rf_sh w) K) (hE : rf_End (some .int) K (rf_sh w) 0 0 (some (.int r.1)) (rf_MM w r.2)) {rec113 : Int32 → Int32 → Int32 → rf_m → Option (Int32 × rf_m)} {rec206 : Int32 → Int32 → Int32 → Int32 → rf_m → Option (Int32 × rf_m)} (hr113 : ∀ (a7 : Int32) (a8 : Int32) (a9 : Int32) (m : rf_m), rec113 a7 a8 a9 m = some r → rf_V 12 (rf_sh w) K 0 0 113 ([(0, .ref 206), (7, .int a7), (8, .int a8), (9, .int a9)], [], rf_MM w m)) (hr206 : ∀ (a7 : Int32) (a8 : Int32) (a9 : Int32) (a11 : Int32) (m : rf_m), rec206 a7 a8 a9 a11 m = some r → rf_V 12 (rf_sh w) K 0 0 206 ([(0, .ref 206), (7, .int a7), (8, .int a8), (9, .int a9), (11, .int a11)], [], rf_MM w m)) (a7 : Int32) (a8 : Int32) (a9 : Int32) (a11 : Int32) (m : rf_m) (hg : g_X14_round_206_b w rec113 rec206 a7 a8 a9 a11 m = some r) : rf_V 12 (rf_sh w) K 0 0 206 ([(0, .ref 206), (7, .int a7), (8, .int a8), (9, .int a9), (11, .int a11)], [], rf_MM w m) := by
  unfold g_X14_round_206_b at hg
  refine rf_seg C [(.iload 11, 2), (.iload 9, 2)] (pc' := 210) (S' := ([(0, .ref 206), (7, .int a7), (8, .int a8), (9, .int a9), (11, .int a11)], [.int a9, .int a11], rf_MM w m)) (by decide +kernel) rfl trivial ?_
  refine rf_icmp_ge C 38 248 (by decide +kernel) (fun hc => ?_) (fun hc => ?_)
  · replace hg := (if_pos hc).symm.trans hg
    refine rf_seg C [(.iinc 9 1, 3)] (pc' := 251) (S' := ([(9, .int (a9 + 1)), (0, .ref 206), (7, .int a7), (8, .int a8), (11, .int a11)], [], rf_MM w m)) (by decide +kernel) rfl trivial ?_
    refine rf_goto C (-138) 113 (by decide +kernel) ?_
    refine rf_few [1, 2, 3, 0] rfl ?_
    exact hr113 a7 a8 (a9 + 1) m hg
  · replace hg := (if_neg hc).symm.trans hg
    refine rf_seg C [(.iload 8, 2)] (pc' := 215) (S' := ([(0, .ref 206), (7, .int a7), (8, .int a8), (9, .int a9), (11, .int a11)], [.int a8], rf_MM w m)) (by decide +kernel) rfl trivial ?_
    refine rf_if_eq C 24 239 (by decide +kernel) (fun hc => ?_) (fun hc => ?_)
    · replace hg := (if_pos hc).symm.trans hg
      refine rf_few [0, 1, 3, 4] rfl ?_
      exact s_X14_round_239 C hE hr113 hr206 a7 a9 a11 m hg
    · replace hg := (if_neg hc).symm.trans hg
      obtain ⟨q0, hg⟩ := rf_g_some hg
      obtain ⟨q1, hg⟩ := rf_g_some hg
      refine rf_seg C [(.aload 0, 1), (.invokeinterface 14 70, 3), (.iload 11, 2), (.iaload, 1), (.aload 0, 1), (.invokeinterface 14 70, 3), (.iload 9, 2), (.iaload, 1)] (pc' := 232) (S' := ([(0, .ref 206), (7, .int a7), (8, .int a8), (9, .int a9), (11, .int a11)], [.int (m.1 247 (Int32.toNatClampNeg a9)), .int (m.1 247 (Int32.toNatClampNeg a11))], rf_MM w m)) (by decide +kernel) rfl (by exact ⟨(rf_in_of q0), (rf_in_of q1)⟩) ?_
      refine rf_icmp_eq C 7 239 (by decide +kernel) (fun hc => ?_) (fun hc => ?_)
      · replace hg := (if_pos hc).symm.trans hg
        refine rf_few [0, 1, 3, 4] rfl ?_
        exact s_X14_round_239 C hE hr113 hr206 a7 a9 a11 m hg
      · replace hg := (if_neg hc).symm.trans hg
        refine rf_seg C [(.iconst 1, 1)] (pc' := 236) (S' := ([(0, .ref 206), (7, .int a7), (8, .int a8), (9, .int a9), (11, .int a11)], [.int 1], rf_MM w m)) (by decide +kernel) rfl trivial ?_
        refine rf_goto C 4 240 (by decide +kernel) ?_
        refine rf_few [0, 1, 3, 4] rfl ?_
        exact s_X14_round_240 C hE hr113 hr206 a7 a9 a11 1 m hg
theorem s_X14_round_206 {w : rf_w} {K : rf_K} {r : Int32 × rf_m} (C : rf_Ctx 14 cX14_round 12 2 (rf_sh w) K) (hE : rf_End (some .int) K (rf_sh w) 0 0 (some (.int r.1)) (rf_MM w r.2)) {rec113 : Int32 → Int32 → Int32 → rf_m → Option (Int32 × rf_m)} (hr113 : ∀ (a7 : Int32) (a8 : Int32) (a9 : Int32) (m : rf_m), rec113 a7 a8 a9 m = some r → rf_V 12 (rf_sh w) K 0 0 113 ([(0, .ref 206), (7, .int a7), (8, .int a8), (9, .int a9)], [], rf_MM w m)) (n : Nat) : ∀ (a7 : Int32) (a8 : Int32) (a9 : Int32) (a11 : Int32) (m : rf_m), g_X14_round_206 w rec113 n a7 a8 a9 a11 m = some r → rf_V 12 (rf_sh w) K 0 0 206 ([(0, .ref 206), (7, .int a7), (8, .int a8), (9, .int a9), (11, .int a11)], [], rf_MM w m) := by
  induction n with
  | zero => intro a7 a8 a9 a11 m hg; cases hg
  | succ n ih => intro a7 a8 a9 a11 m hg; exact s_X14_round_206_b C hE hr113 ih a7 a8 a9 a11 m hg
theorem s_X14_round_201 {w : rf_w} {K : rf_K} {r : Int32 × rf_m} (C : rf_Ctx 14 cX14_round 12 2 (rf_sh w) K) (hE : rf_End (some .int) K (rf_sh w) 0 0 (some (.int r.1)) (rf_MM w r.2)) {rec113 : Int32 → Int32 → Int32 → rf_m → Option (Int32 × rf_m)} (hr113 : ∀ (a7 : Int32) (a8 : Int32) (a9 : Int32) (m : rf_m), rec113 a7 a8 a9 m = some r → rf_V 12 (rf_sh w) K 0 0 113 ([(0, .ref 206), (7, .int a7), (8, .int a8), (9, .int a9)], [], rf_MM w m)) (a7 : Int32) (a9 : Int32) (s0 : Int32) (m : rf_m) (hg : g_X14_round_201 w rec113 a7 a9 s0 m = some r) : rf_V 12 (rf_sh w) K 0 0 201 ([(0, .ref 206), (7, .int a7), (9, .int a9)], [.int s0], rf_MM w m) := by
  unfold g_X14_round_201 at hg
  refine rf_seg C [(.istore 8, 2), (.iconst 0, 1), (.istore 11, 2)] (pc' := 206) (S' := ([(11, .int 0), (8, .int s0), (0, .ref 206), (7, .int a7), (9, .int a9)], [], rf_MM w m)) (by decide +kernel) rfl trivial ?_
  refine rf_few [2, 3, 1, 4, 0] rfl ?_
  exact s_X14_round_206 C hE hr113 rf_fuel a7 s0 a9 0 m hg
theorem s_X14_round_200 {w : rf_w} {K : rf_K} {r : Int32 × rf_m} (C : rf_Ctx 14 cX14_round 12 2 (rf_sh w) K) (hE : rf_End (some .int) K (rf_sh w) 0 0 (some (.int r.1)) (rf_MM w r.2)) {rec113 : Int32 → Int32 → Int32 → rf_m → Option (Int32 × rf_m)} (hr113 : ∀ (a7 : Int32) (a8 : Int32) (a9 : Int32) (m : rf_m), rec113 a7 a8 a9 m = some r → rf_V 12 (rf_sh w) K 0 0 113 ([(0, .ref 206), (7, .int a7), (8, .int a8), (9, .int a9)], [], rf_MM w m)) (a7 : Int32) (a9 : Int32) (m : rf_m) (hg : g_X14_round_200 w rec113 a7 a9 m = some r) : rf_V 12 (rf_sh w) K 0 0 200 ([(0, .ref 206), (7, .int a7), (9, .int a9)], [], rf_MM w m) := by
  unfold g_X14_round_200 at hg
  refine rf_seg C [(.iconst 0, 1)] (pc' := 201) (S' := ([(0, .ref 206), (7, .int a7), (9, .int a9)], [.int 0], rf_MM w m)) (by decide +kernel) rfl trivial ?_
  refine rf_few [0, 1, 2] rfl ?_
  exact s_X14_round_201 C hE hr113 a7 a9 0 m hg
theorem s_X14_round_140 {w : rf_w} {K : rf_K} {r : Int32 × rf_m} (C : rf_Ctx 14 cX14_round 12 2 (rf_sh w) K) (hE : rf_End (some .int) K (rf_sh w) 0 0 (some (.int r.1)) (rf_MM w r.2)) {rec113 : Int32 → Int32 → Int32 → rf_m → Option (Int32 × rf_m)} (hr113 : ∀ (a7 : Int32) (a8 : Int32) (a9 : Int32) (m : rf_m), rec113 a7 a8 a9 m = some r → rf_V 12 (rf_sh w) K 0 0 113 ([(0, .ref 206), (7, .int a7), (8, .int a8), (9, .int a9)], [], rf_MM w m)) (a7 : Int32) (a8 : Int32) (a9 : Int32) (s1 : Int32) (m : rf_m) (hg : g_X14_round_140 w rec113 a7 a8 a9 s1 m = some r) : rf_V 12 (rf_sh w) K 0 0 140 ([(0, .ref 206), (7, .int a7), (8, .int a8), (9, .int a9)], [.int s1, .ref 247], rf_MM w m) := by
  unfold g_X14_round_140 at hg
  obtain ⟨q0, hg⟩ := rf_g_some hg
  refine rf_seg C [(.iaload, 1)] (pc' := 141) (S' := ([(0, .ref 206), (7, .int a7), (8, .int a8), (9, .int a9)], [.int (m.1 247 (Int32.toNatClampNeg s1))], rf_MM w m)) (by decide +kernel) rfl (rf_in_of q0) ?_
  obtain ⟨x1, hx1, hg⟩ := rf_vi_some hg
  refine rf_vi_top hx1 ?_
  refine rf_seg C [(.istore 10, 2), (.iload 8, 2)] (pc' := 145) (S' := ([(10, .int x1), (0, .ref 206), (7, .int a7), (8, .int a8), (9, .int a9)], [.int a8], rf_MM w m)) (by decide +kernel) rfl trivial ?_
  refine rf_if_eq C 55 200 (by decide +kernel) (fun hc => ?_) (fun hc => ?_)
  · replace hg := (if_pos hc).symm.trans hg
    refine rf_few [1, 2, 4] rfl ?_
    exact s_X14_round_200 C hE hr113 a7 a9 m hg
  · replace hg := (if_neg hc).symm.trans hg
    obtain ⟨q2, hg⟩ := rf_g_some hg
    obtain ⟨q3, hg⟩ := rf_g_some hg
    obtain ⟨q4, hg⟩ := rf_g_some hg
    refine rf_seg C [(.aload 0, 1), (.invokeinterface 14 21, 3), (.aload 0, 1), (.invokeinterface 14 70, 3), (.iload 9, 2), (.iaload, 1), (.iaload, 1), (.aload 0, 1), (.invokeinterface 14 21, 3), (.aload 0, 1), (.invokeinterface 14 70, 3), (.iconst 0, 1), (.iaload, 1), (.iaload, 1)] (pc' := 171) (S' := ([(10, .int x1), (0, .ref 206), (7, .int a7), (8, .int a8), (9, .int a9)], [.int (m.1 217 (Int32.toNatClampNeg (m.1 247 (Int32.toNatClampNeg 0)))), .int (m.1 217 (Int32.toNatClampNeg (m.1 247 (Int32.toNatClampNeg a9))))], rf_MM w m)) (by decide +kernel) rfl (by exact ⟨(rf_in_of q2), (rf_in_of q3), (rf_in_of (by decide)), (rf_in_of q4)⟩) ?_
    refine rf_icmp_ne C 29 200 (by decide +kernel) (fun hc => ?_) (fun hc => ?_)
    · replace hg := (if_neg hc).symm.trans hg
      refine rf_few [1, 2, 4] rfl ?_
      exact s_X14_round_200 C hE hr113 a7 a9 m hg
    · replace hg := (if_pos hc).symm.trans hg
      obtain ⟨q5, hg⟩ := rf_g_some hg
      obtain ⟨q6, hg⟩ := rf_g_some hg
      obtain ⟨q7, hg⟩ := rf_g_some hg
      refine rf_seg C [(.aload 0, 1), (.invokeinterface 14 22, 3), (.aload 0, 1), (.invokeinterface 14 70, 3), (.iload 9, 2), (.iaload, 1), (.iaload, 1), (.aload 0, 1), (.invokeinterface 14 23, 3), (.iload 10, 2), (.iaload, 1)] (pc' := 193) (S' := ([(10, .int x1), (0, .ref 206), (7, .int a7), (8, .int a8), (9, .int a9)], [.int (m.1 219 (Int32.toNatClampNeg x1)), .int (m.1 218 (Int32.toNatClampNeg (m.1 247 (Int32.toNatClampNeg a9))))], rf_MM w m)) (by decide +kernel) rfl (by exact ⟨(rf_in_of q5), (rf_in_of q6), (rf_in_of q7)⟩) ?_
      refine rf_icmp_ne C 7 200 (by decide +kernel) (fun hc => ?_) (fun hc => ?_)
      · replace hg := (if_neg hc).symm.trans hg
        refine rf_few [1, 2, 4] rfl ?_
        exact s_X14_round_200 C hE hr113 a7 a9 m hg
      · replace hg := (if_pos hc).symm.trans hg
        refine rf_seg C [(.iconst 1, 1)] (pc' := 197) (S' := ([(10, .int x1), (0, .ref 206), (7, .int a7), (8, .int a8), (9, .int a9)], [.int 1], rf_MM w m)) (by decide +kernel) rfl trivial ?_
        refine rf_goto C 4 201 (by decide +kernel) ?_
        refine rf_few [1, 2, 4] rfl ?_
        exact s_X14_round_201 C hE hr113 a7 a9 1 m hg
theorem s_X14_round_113_b {w : rf_w} {K : rf_K} {r : Int32 × rf_m} (C : rf_Ctx 14 cX14_round 12 2 (rf_sh w) K) (hE : rf_End (some .int) K (rf_sh w) 0 0 (some (.int r.1)) (rf_MM w r.2)) {rec113 : Int32 → Int32 → Int32 → rf_m → Option (Int32 × rf_m)} (hr113 : ∀ (a7 : Int32) (a8 : Int32) (a9 : Int32) (m : rf_m), rec113 a7 a8 a9 m = some r → rf_V 12 (rf_sh w) K 0 0 113 ([(0, .ref 206), (7, .int a7), (8, .int a8), (9, .int a9)], [], rf_MM w m)) (a7 : Int32) (a8 : Int32) (a9 : Int32) (m : rf_m) (hg : g_X14_round_113_b w rec113 a7 a8 a9 m = some r) : rf_V 12 (rf_sh w) K 0 0 113 ([(0, .ref 206), (7, .int a7), (8, .int a8), (9, .int a9)], [], rf_MM w m) := by
  unfold g_X14_round_113_b at hg
  refine rf_seg C [(.iload 9, 2), (.iload 7, 2)] (pc' := 117) (S' := ([(0, .ref 206), (7, .int a7), (8, .int a8), (9, .int a9)], [.int a7, .int a9], rf_MM w m)) (by decide +kernel) rfl trivial ?_
  refine rf_icmp_ge C 137 254 (by decide +kernel) (fun hc => ?_) (fun hc => ?_)
  · replace hg := (if_pos hc).symm.trans hg
    refine rf_seg C [(.iload 8, 2)] (pc' := 256) (S' := ([(0, .ref 206), (7, .int a7), (8, .int a8), (9, .int a9)], [.int a8], rf_MM w m)) (by decide +kernel) rfl trivial ?_
    refine rf_if_ne C 9 265 (by decide +kernel) (fun hc => ?_) (fun hc => ?_)
    · replace hg := (if_neg hc).symm.trans hg
      refine rf_seg C [(.aload 0, 1), (.invokeinterface 14 65, 3), (.iconst 12, 2)] (pc' := 271) (S' := ([(0, .ref 206), (7, .int a7), (8, .int a8), (9, .int a9)], [.int 12, .int (m.1 206 65)], rf_MM w m)) (by decide +kernel) rfl trivial ?_
      refine rf_icmp_ne C 9 280 (by decide +kernel) (fun hc => ?_) (fun hc => ?_)
      · replace hg := (if_neg hc).symm.trans hg
        refine rf_seg C [(.iconst 0, 1), (.istore 9, 2)] (pc' := 283) (S' := ([(9, .int 0), (0, .ref 206), (7, .int a7), (8, .int a8)], [], rf_MM w m)) (by decide +kernel) rfl trivial ?_
        refine rf_few [1, 2, 0] rfl ?_
        exact s_X14_round_283 C hE rf_fuel a7 0 m hg
      · replace hg := (if_pos hc).symm.trans hg
        refine rf_seg C [(.aload 0, 1), (.iconst 3, 1)] (pc' := 276) (S' := ([(0, .ref 206), (7, .int a7), (8, .int a8), (9, .int a9)], [.int 3, .ref 206], rf_MM w m)) (by decide +kernel) rfl trivial ?_
        obtain ⟨y0, m0, hc0, hg⟩ := rf_b_some hg
        refine rf_callv C rf_fit0 j_X14_refused (ci := 14) (As := [.int 3]) (rest := []) mw_X14_refused (c_X14_refused hc0) (by decide) rfl (by decide) lk_14_353 rfl rfl (Nat.le_of_ble_eq_true rfl) (by decide +kernel) ?_
        show rf_V 12 (rf_sh w) K 0 0 279 ([(0, .ref 206), (7, .int a7), (8, .int a8), (9, .int a9)], [.int y0], rf_MM w m0)
        obtain rfl := Option.some.inj hg
        exact rf_iret C hE (by decide +kernel)
    · replace hg := (if_pos hc).symm.trans hg
      refine rf_seg C [(.aload 0, 1), (.iconst 5, 1)] (pc' := 261) (S' := ([(0, .ref 206), (7, .int a7), (8, .int a8), (9, .int a9)], [.int 5, .ref 206], rf_MM w m)) (by decide +kernel) rfl trivial ?_
      obtain ⟨y1, m1, hc1, hg⟩ := rf_b_some hg
      refine rf_callv C rf_fit0 j_X14_refused (ci := 14) (As := [.int 5]) (rest := []) mw_X14_refused (c_X14_refused hc1) (by decide) rfl (by decide) lk_14_353 rfl rfl (Nat.le_of_ble_eq_true rfl) (by decide +kernel) ?_
      show rf_V 12 (rf_sh w) K 0 0 264 ([(0, .ref 206), (7, .int a7), (8, .int a8), (9, .int a9)], [.int y1], rf_MM w m1)
      obtain rfl := Option.some.inj hg
      exact rf_iret C hE (by decide +kernel)
  · replace hg := (if_neg hc).symm.trans hg
    refine rf_seg C [(.aload 0, 1), (.invokeinterface 14 70, 3), (.iload 9, 2)] (pc' := 126) (S' := ([(0, .ref 206), (7, .int a7), (8, .int a8), (9, .int a9)], [.int a9, .ref 247], rf_MM w m)) (by decide +kernel) rfl trivial ?_
    refine rf_if_ne C 10 136 (by decide +kernel) (fun hc => ?_) (fun hc => ?_)
    · replace hg := (if_neg hc).symm.trans hg
      refine rf_seg C [(.iload 9, 2), (.iconst 1, 1), (.isub, 1)] (pc' := 140) (S' := ([(0, .ref 206), (7, .int a7), (8, .int a8), (9, .int a9)], [.int (a9 - 1), .ref 247], rf_MM w m)) (by decide +kernel) rfl trivial ?_
      refine rf_few [0, 1, 2, 3] rfl ?_
      exact s_X14_round_140 C hE hr113 a7 a8 a9 (a9 - 1) m hg
    · replace hg := (if_pos hc).symm.trans hg
      refine rf_seg C [(.iload 7, 2), (.iconst 1, 1), (.isub, 1)] (pc' := 133) (S' := ([(0, .ref 206), (7, .int a7), (8, .int a8), (9, .int a9)], [.int (a7 - 1), .ref 247], rf_MM w m)) (by decide +kernel) rfl trivial ?_
      refine rf_goto C 7 140 (by decide +kernel) ?_
      refine rf_few [0, 1, 2, 3] rfl ?_
      exact s_X14_round_140 C hE hr113 a7 a8 a9 (a7 - 1) m hg
theorem s_X14_round_113 {w : rf_w} {K : rf_K} {r : Int32 × rf_m} (C : rf_Ctx 14 cX14_round 12 2 (rf_sh w) K) (hE : rf_End (some .int) K (rf_sh w) 0 0 (some (.int r.1)) (rf_MM w r.2)) (n : Nat) : ∀ (a7 : Int32) (a8 : Int32) (a9 : Int32) (m : rf_m), g_X14_round_113 w n a7 a8 a9 m = some r → rf_V 12 (rf_sh w) K 0 0 113 ([(0, .ref 206), (7, .int a7), (8, .int a8), (9, .int a9)], [], rf_MM w m) := by
  induction n with
  | zero => intro a7 a8 a9 m hg; cases hg
  | succ n ih => intro a7 a8 a9 m hg; exact s_X14_round_113_b C hE ih a7 a8 a9 m hg
theorem s_X14_round_108 {w : rf_w} {K : rf_K} {r : Int32 × rf_m} (C : rf_Ctx 14 cX14_round 12 2 (rf_sh w) K) (hE : rf_End (some .int) K (rf_sh w) 0 0 (some (.int r.1)) (rf_MM w r.2)) (a7 : Int32) (s0 : Int32) (m : rf_m) (hg : g_X14_round_108 w a7 s0 m = some r) : rf_V 12 (rf_sh w) K 0 0 108 ([(0, .ref 206), (7, .int a7)], [.int s0], rf_MM w m) := by
  unfold g_X14_round_108 at hg
  refine rf_seg C [(.istore 8, 2), (.iconst 0, 1), (.istore 9, 2)] (pc' := 113) (S' := ([(9, .int 0), (8, .int s0), (0, .ref 206), (7, .int a7)], [], rf_MM w m)) (by decide +kernel) rfl trivial ?_
  refine rf_few [2, 3, 1, 0] rfl ?_
  exact s_X14_round_113 C hE rf_fuel a7 s0 0 m hg
theorem s_X14_round_97 {w : rf_w} {K : rf_K} {r : Int32 × rf_m} (C : rf_Ctx 14 cX14_round 12 2 (rf_sh w) K) (hE : rf_End (some .int) K (rf_sh w) 0 0 (some (.int r.1)) (rf_MM w r.2)) (a7 : Int32) (m : rf_m) (hg : g_X14_round_97 w a7 m = some r) : rf_V 12 (rf_sh w) K 0 0 97 ([(0, .ref 206), (7, .int a7)], [], rf_MM w m) := by
  unfold g_X14_round_97 at hg
  refine rf_seg C [(.iload 7, 2), (.iconst 1, 1)] (pc' := 100) (S' := ([(0, .ref 206), (7, .int a7)], [.int 1, .int a7], rf_MM w m)) (by decide +kernel) rfl trivial ?_
  refine rf_icmp_le C 7 107 (by decide +kernel) (fun hc => ?_) (fun hc => ?_)
  · replace hg := (if_pos hc).symm.trans hg
    refine rf_seg C [(.iconst 0, 1)] (pc' := 108) (S' := ([(0, .ref 206), (7, .int a7)], [.int 0], rf_MM w m)) (by decide +kernel) rfl trivial ?_
    refine rf_few [0, 1] rfl ?_
    exact s_X14_round_108 C hE a7 0 m hg
  · replace hg := (if_neg hc).symm.trans hg
    refine rf_seg C [(.iconst 1, 1)] (pc' := 104) (S' := ([(0, .ref 206), (7, .int a7)], [.int 1], rf_MM w m)) (by decide +kernel) rfl trivial ?_
    refine rf_goto C 4 108 (by decide +kernel) ?_
    refine rf_few [0, 1] rfl ?_
    exact s_X14_round_108 C hE a7 1 m hg
theorem s_X14_round_53_b {w : rf_w} {K : rf_K} {r : Int32 × rf_m} (C : rf_Ctx 14 cX14_round 12 2 (rf_sh w) K) (hE : rf_End (some .int) K (rf_sh w) 0 0 (some (.int r.1)) (rf_MM w r.2)) {rec53 : Int32 → rf_m → Option (Int32 × rf_m)} (hr53 : ∀ (a7 : Int32) (m : rf_m), rec53 a7 m = some r → rf_V 12 (rf_sh w) K 0 0 53 ([(0, .ref 206), (7, .int a7)], [], rf_MM w m)) (a7 : Int32) (m : rf_m) (hg : g_X14_round_53_b w rec53 a7 m = some r) : rf_V 12 (rf_sh w) K 0 0 53 ([(0, .ref 206), (7, .int a7)], [], rf_MM w m) := by
  unfold g_X14_round_53_b at hg
  refine rf_seg C [(.iload 7, 2), (.iconst 6, 2)] (pc' := 57) (S' := ([(0, .ref 206), (7, .int a7)], [.int 6, .int a7], rf_MM w m)) (by decide +kernel) rfl trivial ?_
  refine rf_icmp_ge C 40 97 (by decide +kernel) (fun hc => ?_) (fun hc => ?_)
  · replace hg := (if_pos hc).symm.trans hg
    refine rf_few [0, 1] rfl ?_
    exact s_X14_round_97 C hE a7 m hg
  · replace hg := (if_neg hc).symm.trans hg
    obtain ⟨q0, hg⟩ := rf_g_some hg
    refine rf_seg C [(.aload 0, 1), (.invokeinterface 14 70, 3), (.iload 7, 2), (.iaload, 1), (.iconst (-1), 1)] (pc' := 68) (S' := ([(0, .ref 206), (7, .int a7)], [.int ((-1)), .int (m.1 247 (Int32.toNatClampNeg a7))], rf_MM w m)) (by decide +kernel) rfl (rf_in_of q0) ?_
    refine rf_icmp_eq C 29 97 (by decide +kernel) (fun hc => ?_) (fun hc => ?_)
    · replace hg := (if_pos hc).symm.trans hg
      refine rf_few [0, 1] rfl ?_
      exact s_X14_round_97 C hE a7 m hg
    · replace hg := (if_neg hc).symm.trans hg
      obtain ⟨q1, hg⟩ := rf_g_some hg
      refine rf_seg C [(.aload 0, 1), (.aload 0, 1), (.invokeinterface 14 70, 3), (.iload 7, 2), (.iaload, 1)] (pc' := 79) (S' := ([(0, .ref 206), (7, .int a7)], [.int (m.1 247 (Int32.toNatClampNeg a7)), .ref 206], rf_MM w m)) (by decide +kernel) rfl (rf_in_of q1) ?_
      obtain ⟨y2, m2, hc2, hg⟩ := rf_b_some hg
      refine rf_callv C rf_fit0 j_X14_isAngle (ci := 14) (As := [.int (m.1 247 (Int32.toNatClampNeg a7))]) (rest := []) mw_X14_isAngle (c_X14_isAngle hc2) (by decide) rfl (by decide) lk_14_402 rfl rfl (Nat.le_of_ble_eq_true rfl) (by decide +kernel) ?_
      show rf_V 12 (rf_sh w) K 0 0 82 ([(0, .ref 206), (7, .int a7)], [.int y2], rf_MM w m2)
      refine rf_if_ne C 9 91 (by decide +kernel) (fun hc => ?_) (fun hc => ?_)
      · replace hg := (if_neg hc).symm.trans hg
        refine rf_seg C [(.iinc 7 1, 3)] (pc' := 94) (S' := ([(7, .int (a7 + 1)), (0, .ref 206)], [], rf_MM w m2)) (by decide +kernel) rfl trivial ?_
        refine rf_goto C (-41) 53 (by decide +kernel) ?_
        refine rf_few [1, 0] rfl ?_
        exact hr53 (a7 + 1) m2 hg
      · replace hg := (if_pos hc).symm.trans hg
        refine rf_seg C [(.aload 0, 1), (.iconst 1, 1)] (pc' := 87) (S' := ([(0, .ref 206), (7, .int a7)], [.int 1, .ref 206], rf_MM w m2)) (by decide +kernel) rfl trivial ?_
        obtain ⟨y3, m3, hc3, hg⟩ := rf_b_some hg
        refine rf_callv C rf_fit0 j_X14_refused (ci := 14) (As := [.int 1]) (rest := []) mw_X14_refused (c_X14_refused hc3) (by decide) rfl (by decide) lk_14_353 rfl rfl (Nat.le_of_ble_eq_true rfl) (by decide +kernel) ?_
        show rf_V 12 (rf_sh w) K 0 0 90 ([(0, .ref 206), (7, .int a7)], [.int y3], rf_MM w m3)
        obtain rfl := Option.some.inj hg
        exact rf_iret C hE (by decide +kernel)
theorem s_X14_round_53 {w : rf_w} {K : rf_K} {r : Int32 × rf_m} (C : rf_Ctx 14 cX14_round 12 2 (rf_sh w) K) (hE : rf_End (some .int) K (rf_sh w) 0 0 (some (.int r.1)) (rf_MM w r.2)) (n : Nat) : ∀ (a7 : Int32) (m : rf_m), g_X14_round_53 w n a7 m = some r → rf_V 12 (rf_sh w) K 0 0 53 ([(0, .ref 206), (7, .int a7)], [], rf_MM w m) := by
  induction n with
  | zero => intro a7 m hg; cases hg
  | succ n ih => intro a7 m hg; exact s_X14_round_53_b C hE ih a7 m hg
theorem c_X14_round {w : rf_w} {m : rf_m} {a1 : Int32} {a2 : Int32} {a3 : Int32} {a4 : Int32} {a5 : Int32} {a6 : Int32} {r : Int32 × rf_m} (hg : g_X14_round w m a1 a2 a3 a4 a5 a6 = some r) : rf_Con j_X14_round 2 (rf_sh w) [.ref 206, .int a1, .int a2, .int a3, .int a4, .int a5, .int a6] (rf_MM w m) (some (.int r.1)) (rf_MM w r.2) := by
  refine rf_con j_X14_round 2 ⟨by decide +kernel, rfl, Nat.le_of_ble_eq_true rfl⟩ (fun K C hE => ?_)
  unfold g_X14_round at hg
  show rf_V 12 (rf_sh w) K 0 0 0 ([(0, .ref 206), (1, .int a1), (2, .int a2), (3, .int a3), (4, .int a4), (5, .int a5), (6, .int a6)], [], rf_MM w m)
  refine rf_seg C [(.aload 0, 1), (.iconst 0, 1), (.multianewarray 14 0, 3), (.aload 0, 1), (.invokeinterface 14 70, 3), (.iconst 0, 1), (.iload 1, 1), (.iastore, 1), (.aload 0, 1), (.invokeinterface 14 70, 3), (.iconst 1, 1), (.iload 2, 1), (.iastore, 1), (.aload 0, 1), (.invokeinterface 14 70, 3), (.iconst 2, 1), (.iload 3, 1), (.iastore, 1), (.aload 0, 1), (.invokeinterface 14 70, 3), (.iconst 3, 1), (.iload 4, 2), (.iastore, 1), (.aload 0, 1), (.invokeinterface 14 70, 3), (.iconst 4, 1), (.iload 5, 2), (.iastore, 1), (.aload 0, 1), (.invokeinterface 14 70, 3), (.iconst 5, 1), (.iload 6, 2), (.iastore, 1), (.iconst 0, 1), (.istore 7, 2)] (pc' := 53) (S' := ([(7, .int 0), (0, .ref 206), (1, .int a1), (2, .int a2), (3, .int a3), (4, .int a4), (5, .int a5), (6, .int a6)], [], rf_MM w (rf_i (rf_i (rf_i (rf_i (rf_i (rf_i (rf_i m 206 0 0) 247 (Int32.toNatClampNeg 0) a1) 247 (Int32.toNatClampNeg 1) a2) 247 (Int32.toNatClampNeg 2) a3) 247 (Int32.toNatClampNeg 3) a4) 247 (Int32.toNatClampNeg 4) a5) 247 (Int32.toNatClampNeg 5) a6))) (by decide +kernel) rfl (by exact ⟨(rf_in_of (by decide)), (rf_in_of (by decide)), (rf_in_of (by decide)), (rf_in_of (by decide)), (rf_in_of (by decide)), (rf_in_of (by decide))⟩) ?_
  refine rf_few [1, 0] rfl ?_
  exact s_X14_round_53 C hE rf_fuel 0 (rf_i (rf_i (rf_i (rf_i (rf_i (rf_i (rf_i m 206 0 0) 247 (Int32.toNatClampNeg 0) a1) 247 (Int32.toNatClampNeg 1) a2) 247 (Int32.toNatClampNeg 2) a3) 247 (Int32.toNatClampNeg 3) a4) 247 (Int32.toNatClampNeg 4) a5) 247 (Int32.toNatClampNeg 5) a6) hg
-- X14_allMeans
abbrev j_X14_allMeans : rf_J := (14, yX14_allMeans, cX14_allMeans, 2, none)
theorem mw_X14_allMeans : rf_mv j_X14_allMeans (rf_R 14) 0 := ⟨⟨rf_mem 61 (by decide +kernel), rf_mem 61 (by decide +kernel), rf_mem 0 (by decide +kernel), rf_mem 61 (by decide +kernel)⟩, by decide +kernel, by decide⟩
def g_X14_allMeans_2_b (w : rf_w) (rec2 : Int32 → rf_m → Option (rf_m)) (a1 : Int32) (m : rf_m) : Option (rf_m) := (if (m.1 206 16) ≤ a1 then some m else rf_b (g_X14_meanOf w m a1) fun y0 m0 => rf_g (rf_in a1 80) (rec2 (a1 + 1) (rf_i m0 248 (Int32.toNatClampNeg a1) y0)))
def g_X14_allMeans_2 (w : rf_w) : Nat → Int32 → rf_m → Option (rf_m)
  | 0, _, _ => none
  | n + 1, a1, m => g_X14_allMeans_2_b w (g_X14_allMeans_2 w n) a1 m
def g_X14_allMeans (w : rf_w) (m : rf_m) : Option (rf_m) := g_X14_allMeans_2 w rf_fuel 0 m
theorem s_X14_allMeans_2_b {w : rf_w} {K : rf_K} {r : rf_m} (C : rf_Ctx 14 cX14_allMeans 2 9 (rf_sh w) K) (hE : rf_End none K (rf_sh w) 0 0 none (rf_MM w r)) {rec2 : Int32 → rf_m → Option (rf_m)} (hr2 : ∀ (a1 : Int32) (m : rf_m), rec2 a1 m = some r → rf_V 2 (rf_sh w) K 0 0 2 ([(0, .ref 206), (1, .int a1)], [], rf_MM w m)) (a1 : Int32) (m : rf_m) (hg : g_X14_allMeans_2_b w rec2 a1 m = some r) : rf_V 2 (rf_sh w) K 0 0 2 ([(0, .ref 206), (1, .int a1)], [], rf_MM w m) := by
  unfold g_X14_allMeans_2_b at hg
  refine rf_seg C [(.iload 1, 1), (.aload 0, 1), (.invokeinterface 14 16, 3)] (pc' := 7) (S' := ([(0, .ref 206), (1, .int a1)], [.int (m.1 206 16), .int a1], rf_MM w m)) (by decide +kernel) rfl trivial ?_
  refine rf_icmp_ge C 20 27 (by decide +kernel) (fun hc => ?_) (fun hc => ?_)
  · replace hg := (if_pos hc).symm.trans hg
    obtain rfl := Option.some.inj hg
    exact rf_vret C hE (by decide +kernel)
  · replace hg := (if_neg hc).symm.trans hg
    refine rf_seg C [(.aload 0, 1), (.invokeinterface 14 71, 3), (.iload 1, 1), (.aload 0, 1), (.iload 1, 1)] (pc' := 17) (S' := ([(0, .ref 206), (1, .int a1)], [.int a1, .ref 206, .int a1, .ref 248], rf_MM w m)) (by decide +kernel) rfl trivial ?_
    obtain ⟨y0, m0, hc0, hg⟩ := rf_b_some hg
    refine rf_callv C rf_fit0 j_X14_meanOf (ci := 14) (As := [.int a1]) (rest := [.int a1, .ref 248]) mw_X14_meanOf (c_X14_meanOf hc0) (by decide) rfl (by decide) lk_14_698 rfl rfl (Nat.le_of_ble_eq_true rfl) (by decide +kernel) ?_
    show rf_V 2 (rf_sh w) K 0 0 20 ([(0, .ref 206), (1, .int a1)], [.int y0, .int a1, .ref 248], rf_MM w m0)
    obtain ⟨q1, hg⟩ := rf_g_some hg
    refine rf_seg C [(.iastore, 1), (.iinc 1 1, 3)] (pc' := 24) (S' := ([(1, .int (a1 + 1)), (0, .ref 206)], [], rf_MM w (rf_i m0 248 (Int32.toNatClampNeg a1) y0))) (by decide +kernel) rfl (rf_in_of q1) ?_
    refine rf_goto C (-22) 2 (by decide +kernel) ?_
    refine rf_few [1, 0] rfl ?_
    exact hr2 (a1 + 1) (rf_i m0 248 (Int32.toNatClampNeg a1) y0) hg
theorem s_X14_allMeans_2 {w : rf_w} {K : rf_K} {r : rf_m} (C : rf_Ctx 14 cX14_allMeans 2 9 (rf_sh w) K) (hE : rf_End none K (rf_sh w) 0 0 none (rf_MM w r)) (n : Nat) : ∀ (a1 : Int32) (m : rf_m), g_X14_allMeans_2 w n a1 m = some r → rf_V 2 (rf_sh w) K 0 0 2 ([(0, .ref 206), (1, .int a1)], [], rf_MM w m) := by
  induction n with
  | zero => intro a1 m hg; cases hg
  | succ n ih => intro a1 m hg; exact s_X14_allMeans_2_b C hE ih a1 m hg
theorem c_X14_allMeans {w : rf_w} {m : rf_m} {r : rf_m} (hg : g_X14_allMeans w m = some r) : rf_Con j_X14_allMeans 9 (rf_sh w) [.ref 206] (rf_MM w m) none (rf_MM w r) := by
  refine rf_con j_X14_allMeans 9 ⟨by decide +kernel, rfl, Nat.le_of_ble_eq_true rfl⟩ (fun K C hE => ?_)
  unfold g_X14_allMeans at hg
  show rf_V 2 (rf_sh w) K 0 0 0 ([(0, .ref 206)], [], rf_MM w m)
  refine rf_seg C [(.iconst 0, 1), (.istore 1, 1)] (pc' := 2) (S' := ([(1, .int 0), (0, .ref 206)], [], rf_MM w m)) (by decide +kernel) rfl trivial ?_
  refine rf_few [1, 0] rfl ?_
  exact s_X14_allMeans_2 C hE rf_fuel 0 m hg
-- X14_sizeOf
abbrev j_X14_sizeOf : rf_J := (14, yX14_sizeOf, cX14_sizeOf, 3, (some .int))
theorem mw_X14_sizeOf : rf_mv j_X14_sizeOf (rf_R 14) 2 := ⟨⟨rf_mem 61 (by decide +kernel), rf_mem 61 (by decide +kernel), rf_mem 0 (by decide +kernel), rf_mem 61 (by decide +kernel)⟩, by decide +kernel, by decide⟩
def g_X14_sizeOf (w : rf_w) (m : rf_m) (a1 : Int32) (a2 : Int32) : Option (Int32 × rf_m) := (if a2 = 0 then some (3, m) else rf_g (rf_in a1 12) (some (m.1 246 (Int32.toNatClampNeg a1), m)))
theorem c_X14_sizeOf {w : rf_w} {m : rf_m} {a1 : Int32} {a2 : Int32} {r : Int32 × rf_m} (hg : g_X14_sizeOf w m a1 a2 = some r) : rf_Con j_X14_sizeOf 1 (rf_sh w) [.ref 206, .int a1, .int a2] (rf_MM w m) (some (.int r.1)) (rf_MM w r.2) := by
  refine rf_con j_X14_sizeOf 1 ⟨by decide +kernel, rfl, Nat.le_of_ble_eq_true rfl⟩ (fun K C hE => ?_)
  unfold g_X14_sizeOf at hg
  show rf_V 3 (rf_sh w) K 0 0 0 ([(0, .ref 206), (1, .int a1), (2, .int a2)], [], rf_MM w m)
  refine rf_seg C [(.iload 2, 1)] (pc' := 1) (S' := ([(0, .ref 206), (1, .int a1), (2, .int a2)], [.int a2], rf_MM w m)) (by decide +kernel) rfl trivial ?_
  refine rf_if_eq C 12 13 (by decide +kernel) (fun hc => ?_) (fun hc => ?_)
  · replace hg := (if_pos hc).symm.trans hg
    refine rf_seg C [(.iconst 3, 1)] (pc' := 14) (S' := ([(0, .ref 206), (1, .int a1), (2, .int a2)], [.int 3], rf_MM w m)) (by decide +kernel) rfl trivial ?_
    obtain rfl := Option.some.inj hg
    exact rf_iret C hE (by decide +kernel)
  · replace hg := (if_neg hc).symm.trans hg
    obtain ⟨q0, hg⟩ := rf_g_some hg
    refine rf_seg C [(.aload 0, 1), (.invokeinterface 14 69, 3), (.iload 1, 1), (.iaload, 1)] (pc' := 10) (S' := ([(0, .ref 206), (1, .int a1), (2, .int a2)], [.int (m.1 246 (Int32.toNatClampNeg a1))], rf_MM w m)) (by decide +kernel) rfl (rf_in_of q0) ?_
    refine rf_goto C 4 14 (by decide +kernel) ?_
    obtain rfl := Option.some.inj hg
    exact rf_iret C hE (by decide +kernel)
-- X14_angleIn
abbrev j_X14_angleIn : rf_J := (14, yX14_angleIn, cX14_angleIn, 4, (some .int))
theorem mw_X14_angleIn : rf_mv j_X14_angleIn (rf_R 14) 3 := ⟨⟨rf_mem 61 (by decide +kernel), rf_mem 61 (by decide +kernel), rf_mem 0 (by decide +kernel), rf_mem 62 (by decide +kernel)⟩, by decide +kernel, by decide⟩
def g_X14_angleIn (w : rf_w) (m : rf_m) (a1 : Int32) (a2 : Int32) (a3 : Int32) : Option (Int32 × rf_m) := (if a2 = 0 then rf_g (rf_in ((3 * a1) + a3) 90) (some (m.1 243 (Int32.toNatClampNeg ((3 * a1) + a3)), m)) else rf_g (rf_in ((6 * a1) + a3) 72) (some (m.1 245 (Int32.toNatClampNeg ((6 * a1) + a3)), m)))
theorem c_X14_angleIn {w : rf_w} {m : rf_m} {a1 : Int32} {a2 : Int32} {a3 : Int32} {r : Int32 × rf_m} (hg : g_X14_angleIn w m a1 a2 a3 = some r) : rf_Con j_X14_angleIn 1 (rf_sh w) [.ref 206, .int a1, .int a2, .int a3] (rf_MM w m) (some (.int r.1)) (rf_MM w r.2) := by
  refine rf_con j_X14_angleIn 1 ⟨by decide +kernel, rfl, Nat.le_of_ble_eq_true rfl⟩ (fun K C hE => ?_)
  unfold g_X14_angleIn at hg
  show rf_V 4 (rf_sh w) K 0 0 0 ([(0, .ref 206), (1, .int a1), (2, .int a2), (3, .int a3)], [], rf_MM w m)
  refine rf_seg C [(.iload 2, 1)] (pc' := 1) (S' := ([(0, .ref 206), (1, .int a1), (2, .int a2), (3, .int a3)], [.int a2], rf_MM w m)) (by decide +kernel) rfl trivial ?_
  refine rf_if_eq C 17 18 (by decide +kernel) (fun hc => ?_) (fun hc => ?_)
  · replace hg := (if_pos hc).symm.trans hg
    obtain ⟨q0, hg⟩ := rf_g_some hg
    refine rf_seg C [(.aload 0, 1), (.invokeinterface 14 66, 3), (.iconst 3, 1), (.iload 1, 1), (.imul, 1), (.iload 3, 1), (.iadd, 1), (.iaload, 1)] (pc' := 28) (S' := ([(0, .ref 206), (1, .int a1), (2, .int a2), (3, .int a3)], [.int (m.1 243 (Int32.toNatClampNeg ((3 * a1) + a3)))], rf_MM w m)) (by decide +kernel) rfl (rf_in_of q0) ?_
    obtain rfl := Option.some.inj hg
    exact rf_iret C hE (by decide +kernel)
  · replace hg := (if_neg hc).symm.trans hg
    obtain ⟨q1, hg⟩ := rf_g_some hg
    refine rf_seg C [(.aload 0, 1), (.invokeinterface 14 68, 3), (.iconst 6, 2), (.iload 1, 1), (.imul, 1), (.iload 3, 1), (.iadd, 1), (.iaload, 1)] (pc' := 15) (S' := ([(0, .ref 206), (1, .int a1), (2, .int a2), (3, .int a3)], [.int (m.1 245 (Int32.toNatClampNeg ((6 * a1) + a3)))], rf_MM w m)) (by decide +kernel) rfl (rf_in_of q1) ?_
    refine rf_goto C 13 28 (by decide +kernel) ?_
    obtain rfl := Option.some.inj hg
    exact rf_iret C hE (by decide +kernel)
-- X14_missOf
abbrev j_X14_missOf : rf_J := (14, yX14_missOf, cX14_missOf, 6, (some .int))
theorem mw_X14_missOf : rf_mv j_X14_missOf (rf_R 14) 2 := ⟨⟨rf_mem 61 (by decide +kernel), rf_mem 61 (by decide +kernel), rf_mem 0 (by decide +kernel), rf_mem 61 (by decide +kernel)⟩, by decide +kernel, by decide⟩
def g_X14_missOf_24_b (w : rf_w) (rec24 : Int32 → Int32 → Int32 → Int32 → rf_m → Option (Int32 × rf_m)) (a1 : Int32) (a2 : Int32) (a3 : Int32) (a4 : Int32) (m : rf_m) : Option (Int32 × rf_m) := rf_b (g_X14_sizeOf w m a1 a2) fun y0 m0 => (if y0 ≤ a4 then some (a3, m0) else rf_b (g_X14_angleIn w m0 a1 a2 a4) fun y1 m1 => rf_g (rf_in y1 80) (rf_vi (m1.1 248 (Int32.toNatClampNeg y1)) fun x3 => (if x3 = ((-2)) then some ((-2147483648), m1) else rec24 a1 a2 (a3 + x3) (a4 + 1) m1)))
def g_X14_missOf_24 (w : rf_w) : Nat → Int32 → Int32 → Int32 → Int32 → rf_m → Option (Int32 × rf_m)
  | 0, _, _, _, _, _ => none
  | n + 1, a1, a2, a3, a4, m => g_X14_missOf_24_b w (g_X14_missOf_24 w n) a1 a2 a3 a4 m
def g_X14_missOf_20 (w : rf_w) (a1 : Int32) (a2 : Int32) (s0 : Int32) (m : rf_m) : Option (Int32 × rf_m) := g_X14_missOf_24 w rf_fuel a1 a2 s0 0 m
def g_X14_missOf (w : rf_w) (m : rf_m) (a1 : Int32) (a2 : Int32) : Option (Int32 × rf_m) := (if a2 = 0 then rf_g (rf_in a1 30) (g_X14_missOf_20 w a1 a2 (((-6480000)) - (m.1 244 (Int32.toNatClampNeg a1))) m) else g_X14_missOf_20 w a1 a2 ((-12960000)) m)
theorem s_X14_missOf_24_b {w : rf_w} {K : rf_K} {r : Int32 × rf_m} (C : rf_Ctx 14 cX14_missOf 6 2 (rf_sh w) K) (hE : rf_End (some .int) K (rf_sh w) 0 0 (some (.int r.1)) (rf_MM w r.2)) {rec24 : Int32 → Int32 → Int32 → Int32 → rf_m → Option (Int32 × rf_m)} (hr24 : ∀ (a1 : Int32) (a2 : Int32) (a3 : Int32) (a4 : Int32) (m : rf_m), rec24 a1 a2 a3 a4 m = some r → rf_V 6 (rf_sh w) K 0 0 24 ([(0, .ref 206), (1, .int a1), (2, .int a2), (3, .int a3), (4, .int a4)], [], rf_MM w m)) (a1 : Int32) (a2 : Int32) (a3 : Int32) (a4 : Int32) (m : rf_m) (hg : g_X14_missOf_24_b w rec24 a1 a2 a3 a4 m = some r) : rf_V 6 (rf_sh w) K 0 0 24 ([(0, .ref 206), (1, .int a1), (2, .int a2), (3, .int a3), (4, .int a4)], [], rf_MM w m) := by
  unfold g_X14_missOf_24_b at hg
  refine rf_seg C [(.iload 4, 2), (.aload 0, 1), (.iload 1, 1), (.iload 2, 1)] (pc' := 29) (S' := ([(0, .ref 206), (1, .int a1), (2, .int a2), (3, .int a3), (4, .int a4)], [.int a2, .int a1, .ref 206, .int a4], rf_MM w m)) (by decide +kernel) rfl trivial ?_
  obtain ⟨y0, m0, hc0, hg⟩ := rf_b_some hg
  refine rf_callv C rf_fit0 j_X14_sizeOf (ci := 14) (As := [.int a1, .int a2]) (rest := [.int a4]) mw_X14_sizeOf (c_X14_sizeOf hc0) (by decide) rfl (by decide) lk_14_703 rfl rfl (Nat.le_of_ble_eq_true rfl) (by decide +kernel) ?_
  show rf_V 6 (rf_sh w) K 0 0 32 ([(0, .ref 206), (1, .int a1), (2, .int a2), (3, .int a3), (4, .int a4)], [.int y0, .int a4], rf_MM w m0)
  refine rf_icmp_ge C 40 72 (by decide +kernel) (fun hc => ?_) (fun hc => ?_)
  · replace hg := (if_pos hc).symm.trans hg
    refine rf_seg C [(.iload 3, 1)] (pc' := 73) (S' := ([(0, .ref 206), (1, .int a1), (2, .int a2), (3, .int a3), (4, .int a4)], [.int a3], rf_MM w m0)) (by decide +kernel) rfl trivial ?_
    obtain rfl := Option.some.inj hg
    exact rf_iret C hE (by decide +kernel)
  · replace hg := (if_neg hc).symm.trans hg
    refine rf_seg C [(.aload 0, 1), (.invokeinterface 14 71, 3), (.aload 0, 1), (.iload 1, 1), (.iload 2, 1), (.iload 4, 2)] (pc' := 44) (S' := ([(0, .ref 206), (1, .int a1), (2, .int a2), (3, .int a3), (4, .int a4)], [.int a4, .int a2, .int a1, .ref 206, .ref 248], rf_MM w m0)) (by decide +kernel) rfl trivial ?_
    obtain ⟨y1, m1, hc1, hg⟩ := rf_b_some hg
    refine rf_callv C rf_fit0 j_X14_angleIn (ci := 14) (As := [.int a1, .int a2, .int a4]) (rest := [.ref 248]) mw_X14_angleIn (c_X14_angleIn hc1) (by decide) rfl (by decide) lk_14_706 rfl rfl (Nat.le_of_ble_eq_true rfl) (by decide +kernel) ?_
    show rf_V 6 (rf_sh w) K 0 0 47 ([(0, .ref 206), (1, .int a1), (2, .int a2), (3, .int a3), (4, .int a4)], [.int y1, .ref 248], rf_MM w m1)
    obtain ⟨q2, hg⟩ := rf_g_some hg
    refine rf_seg C [(.iaload, 1)] (pc' := 48) (S' := ([(0, .ref 206), (1, .int a1), (2, .int a2), (3, .int a3), (4, .int a4)], [.int (m1.1 248 (Int32.toNatClampNeg y1))], rf_MM w m1)) (by decide +kernel) rfl (rf_in_of q2) ?_
    obtain ⟨x3, hx3, hg⟩ := rf_vi_some hg
    refine rf_vi_top hx3 ?_
    refine rf_seg C [(.istore 5, 2), (.iload 5, 2), (.iconst (-2), 2)] (pc' := 54) (S' := ([(5, .int x3), (0, .ref 206), (1, .int a1), (2, .int a2), (3, .int a3), (4, .int a4)], [.int ((-2)), .int x3], rf_MM w m1)) (by decide +kernel) rfl trivial ?_
    refine rf_icmp_ne C 7 61 (by decide +kernel) (fun hc => ?_) (fun hc => ?_)
    · replace hg := (if_neg hc).symm.trans hg
      refine rf_seg C [(.iload 3, 1), (.iload 5, 2), (.iadd, 1), (.istore 3, 1), (.iinc 4 1, 3)] (pc' := 69) (S' := ([(4, .int (a4 + 1)), (3, .int (a3 + x3)), (5, .int x3), (0, .ref 206), (1, .int a1), (2, .int a2)], [], rf_MM w m1)) (by decide +kernel) rfl trivial ?_
      refine rf_goto C (-45) 24 (by decide +kernel) ?_
      refine rf_few [3, 4, 5, 1, 0] rfl ?_
      exact hr24 a1 a2 (a3 + x3) (a4 + 1) m1 hg
    · replace hg := (if_pos hc).symm.trans hg
      refine rf_seg C [(.iconst (-2147483648), 3)] (pc' := 60) (S' := ([(5, .int x3), (0, .ref 206), (1, .int a1), (2, .int a2), (3, .int a3), (4, .int a4)], [.int ((-2147483648))], rf_MM w m1)) (by decide +kernel) rfl trivial ?_
      obtain rfl := Option.some.inj hg
      exact rf_iret C hE (by decide +kernel)
theorem s_X14_missOf_24 {w : rf_w} {K : rf_K} {r : Int32 × rf_m} (C : rf_Ctx 14 cX14_missOf 6 2 (rf_sh w) K) (hE : rf_End (some .int) K (rf_sh w) 0 0 (some (.int r.1)) (rf_MM w r.2)) (n : Nat) : ∀ (a1 : Int32) (a2 : Int32) (a3 : Int32) (a4 : Int32) (m : rf_m), g_X14_missOf_24 w n a1 a2 a3 a4 m = some r → rf_V 6 (rf_sh w) K 0 0 24 ([(0, .ref 206), (1, .int a1), (2, .int a2), (3, .int a3), (4, .int a4)], [], rf_MM w m) := by
  induction n with
  | zero => intro a1 a2 a3 a4 m hg; cases hg
  | succ n ih => intro a1 a2 a3 a4 m hg; exact s_X14_missOf_24_b C hE ih a1 a2 a3 a4 m hg
theorem s_X14_missOf_20 {w : rf_w} {K : rf_K} {r : Int32 × rf_m} (C : rf_Ctx 14 cX14_missOf 6 2 (rf_sh w) K) (hE : rf_End (some .int) K (rf_sh w) 0 0 (some (.int r.1)) (rf_MM w r.2)) (a1 : Int32) (a2 : Int32) (s0 : Int32) (m : rf_m) (hg : g_X14_missOf_20 w a1 a2 s0 m = some r) : rf_V 6 (rf_sh w) K 0 0 20 ([(0, .ref 206), (1, .int a1), (2, .int a2)], [.int s0], rf_MM w m) := by
  unfold g_X14_missOf_20 at hg
  refine rf_seg C [(.istore 3, 1), (.iconst 0, 1), (.istore 4, 2)] (pc' := 24) (S' := ([(4, .int 0), (3, .int s0), (0, .ref 206), (1, .int a1), (2, .int a2)], [], rf_MM w m)) (by decide +kernel) rfl trivial ?_
  refine rf_few [2, 3, 4, 1, 0] rfl ?_
  exact s_X14_missOf_24 C hE rf_fuel a1 a2 s0 0 m hg
theorem c_X14_missOf {w : rf_w} {m : rf_m} {a1 : Int32} {a2 : Int32} {r : Int32 × rf_m} (hg : g_X14_missOf w m a1 a2 = some r) : rf_Con j_X14_missOf 2 (rf_sh w) [.ref 206, .int a1, .int a2] (rf_MM w m) (some (.int r.1)) (rf_MM w r.2) := by
  refine rf_con j_X14_missOf 2 ⟨by decide +kernel, rfl, Nat.le_of_ble_eq_true rfl⟩ (fun K C hE => ?_)
  unfold g_X14_missOf at hg
  show rf_V 6 (rf_sh w) K 0 0 0 ([(0, .ref 206), (1, .int a1), (2, .int a2)], [], rf_MM w m)
  refine rf_seg C [(.iload 2, 1)] (pc' := 1) (S' := ([(0, .ref 206), (1, .int a1), (2, .int a2)], [.int a2], rf_MM w m)) (by decide +kernel) rfl trivial ?_
  refine rf_if_eq C 9 10 (by decide +kernel) (fun hc => ?_) (fun hc => ?_)
  · replace hg := (if_pos hc).symm.trans hg
    obtain ⟨q0, hg⟩ := rf_g_some hg
    refine rf_seg C [(.iconst (-6480000), 3), (.aload 0, 1), (.invokeinterface 14 67, 3), (.iload 1, 1), (.iaload, 1), (.isub, 1)] (pc' := 20) (S' := ([(0, .ref 206), (1, .int a1), (2, .int a2)], [.int (((-6480000)) - (m.1 244 (Int32.toNatClampNeg a1)))], rf_MM w m)) (by decide +kernel) rfl (rf_in_of q0) ?_
    refine rf_few [0, 1, 2] rfl ?_
    exact s_X14_missOf_20 C hE a1 a2 (((-6480000)) - (m.1 244 (Int32.toNatClampNeg a1))) m hg
  · replace hg := (if_neg hc).symm.trans hg
    refine rf_seg C [(.iconst (-12960000), 3)] (pc' := 7) (S' := ([(0, .ref 206), (1, .int a1), (2, .int a2)], [.int ((-12960000))], rf_MM w m)) (by decide +kernel) rfl trivial ?_
    refine rf_goto C 13 20 (by decide +kernel) ?_
    refine rf_few [0, 1, 2] rfl ?_
    exact s_X14_missOf_20 C hE a1 a2 ((-12960000)) m hg
-- X14_miss
abbrev j_X14_miss : rf_J := (14, yX14_miss, cX14_miss, 3, (some .int))
theorem mw_X14_miss : rf_mv j_X14_miss (rf_R 14) 2 := ⟨⟨rf_mem 60 (by decide +kernel), rf_mem 61 (by decide +kernel), rf_mem 0 (by decide +kernel), rf_mem 61 (by decide +kernel)⟩, by decide +kernel, by decide⟩
def g_X14_miss (w : rf_w) (m : rf_m) (a1 : Int32) (a2 : Int32) : Option (Int32 × rf_m) := (if a1 < 0 then some ((-2147483648), rf_i m 206 0 0) else (if a2 = 0 then (if a1 < ((rf_i m 206 0 0).1 206 64) then rf_bv (g_X14_allMeans w (rf_i m 206 0 0)) fun m0 => rf_b (g_X14_missOf w m0 a1 a2) fun y1 m1 => some (y1, m1) else some ((-2147483648), rf_i m 206 0 0)) else (if a1 < ((rf_i m 206 0 0).1 206 65) then rf_bv (g_X14_allMeans w (rf_i m 206 0 0)) fun m2 => rf_b (g_X14_missOf w m2 a1 a2) fun y3 m3 => some (y3, m3) else some ((-2147483648), rf_i m 206 0 0))))
theorem c_X14_miss {w : rf_w} {m : rf_m} {a1 : Int32} {a2 : Int32} {r : Int32 × rf_m} (hg : g_X14_miss w m a1 a2 = some r) : rf_Con j_X14_miss 10 (rf_sh w) [.ref 206, .int a1, .int a2] (rf_MM w m) (some (.int r.1)) (rf_MM w r.2) := by
  refine rf_con j_X14_miss 10 ⟨by decide +kernel, rfl, Nat.le_of_ble_eq_true rfl⟩ (fun K C hE => ?_)
  unfold g_X14_miss at hg
  show rf_V 3 (rf_sh w) K 0 0 0 ([(0, .ref 206), (1, .int a1), (2, .int a2)], [], rf_MM w m)
  refine rf_seg C [(.aload 0, 1), (.iconst 0, 1), (.multianewarray 14 0, 3), (.iload 1, 1)] (pc' := 6) (S' := ([(0, .ref 206), (1, .int a1), (2, .int a2)], [.int a1], rf_MM w (rf_i m 206 0 0))) (by decide +kernel) rfl trivial ?_
  refine rf_if_lt C 22 28 (by decide +kernel) (fun hc => ?_) (fun hc => ?_)
  · replace hg := (if_pos hc).symm.trans hg
    refine rf_seg C [(.iconst (-2147483648), 3)] (pc' := 31) (S' := ([(0, .ref 206), (1, .int a1), (2, .int a2)], [.int ((-2147483648))], rf_MM w (rf_i m 206 0 0))) (by decide +kernel) rfl trivial ?_
    obtain rfl := Option.some.inj hg
    exact rf_iret C hE (by decide +kernel)
  · replace hg := (if_neg hc).symm.trans hg
    refine rf_seg C [(.iload 1, 1), (.iload 2, 1)] (pc' := 11) (S' := ([(0, .ref 206), (1, .int a1), (2, .int a2)], [.int a2, .int a1], rf_MM w (rf_i m 206 0 0))) (by decide +kernel) rfl trivial ?_
    refine rf_if_eq C 10 21 (by decide +kernel) (fun hc => ?_) (fun hc => ?_)
    · replace hg := (if_pos hc).symm.trans hg
      refine rf_seg C [(.aload 0, 1), (.invokeinterface 14 64, 3)] (pc' := 25) (S' := ([(0, .ref 206), (1, .int a1), (2, .int a2)], [.int ((rf_i m 206 0 0).1 206 64), .int a1], rf_MM w (rf_i m 206 0 0))) (by decide +kernel) rfl trivial ?_
      refine rf_icmp_lt C 7 32 (by decide +kernel) (fun hc => ?_) (fun hc => ?_)
      · replace hg := (if_pos hc).symm.trans hg
        refine rf_seg C [(.aload 0, 1)] (pc' := 33) (S' := ([(0, .ref 206), (1, .int a1), (2, .int a2)], [.ref 206], rf_MM w (rf_i m 206 0 0))) (by decide +kernel) rfl trivial ?_
        obtain ⟨m0, hc0, hg⟩ := rf_bv_some hg
        refine rf_callv C rf_fit0 j_X14_allMeans (ci := 14) (As := []) (rest := []) mw_X14_allMeans (c_X14_allMeans hc0) (by decide) rfl (by decide) lk_14_713 rfl rfl (Nat.le_of_ble_eq_true rfl) (by decide +kernel) ?_
        show rf_V 3 (rf_sh w) K 0 0 36 ([(0, .ref 206), (1, .int a1), (2, .int a2)], [], rf_MM w m0)
        refine rf_seg C [(.aload 0, 1), (.iload 1, 1), (.iload 2, 1)] (pc' := 39) (S' := ([(0, .ref 206), (1, .int a1), (2, .int a2)], [.int a2, .int a1, .ref 206], rf_MM w m0)) (by decide +kernel) rfl trivial ?_
        obtain ⟨y1, m1, hc1, hg⟩ := rf_b_some hg
        refine rf_callv C rf_fit0 j_X14_missOf (ci := 14) (As := [.int a1, .int a2]) (rest := []) mw_X14_missOf (c_X14_missOf hc1) (by decide) rfl (by decide) lk_14_716 rfl rfl (Nat.le_of_ble_eq_true rfl) (by decide +kernel) ?_
        show rf_V 3 (rf_sh w) K 0 0 42 ([(0, .ref 206), (1, .int a1), (2, .int a2)], [.int y1], rf_MM w m1)
        obtain rfl := Option.some.inj hg
        exact rf_iret C hE (by decide +kernel)
      · replace hg := (if_neg hc).symm.trans hg
        refine rf_seg C [(.iconst (-2147483648), 3)] (pc' := 31) (S' := ([(0, .ref 206), (1, .int a1), (2, .int a2)], [.int ((-2147483648))], rf_MM w (rf_i m 206 0 0))) (by decide +kernel) rfl trivial ?_
        obtain rfl := Option.some.inj hg
        exact rf_iret C hE (by decide +kernel)
    · replace hg := (if_neg hc).symm.trans hg
      refine rf_seg C [(.aload 0, 1), (.invokeinterface 14 65, 3)] (pc' := 18) (S' := ([(0, .ref 206), (1, .int a1), (2, .int a2)], [.int ((rf_i m 206 0 0).1 206 65), .int a1], rf_MM w (rf_i m 206 0 0))) (by decide +kernel) rfl trivial ?_
      refine rf_goto C 7 25 (by decide +kernel) ?_
      refine rf_icmp_lt C 7 32 (by decide +kernel) (fun hc => ?_) (fun hc => ?_)
      · replace hg := (if_pos hc).symm.trans hg
        refine rf_seg C [(.aload 0, 1)] (pc' := 33) (S' := ([(0, .ref 206), (1, .int a1), (2, .int a2)], [.ref 206], rf_MM w (rf_i m 206 0 0))) (by decide +kernel) rfl trivial ?_
        obtain ⟨m2, hc2, hg⟩ := rf_bv_some hg
        refine rf_callv C rf_fit0 j_X14_allMeans (ci := 14) (As := []) (rest := []) mw_X14_allMeans (c_X14_allMeans hc2) (by decide) rfl (by decide) lk_14_713 rfl rfl (Nat.le_of_ble_eq_true rfl) (by decide +kernel) ?_
        show rf_V 3 (rf_sh w) K 0 0 36 ([(0, .ref 206), (1, .int a1), (2, .int a2)], [], rf_MM w m2)
        refine rf_seg C [(.aload 0, 1), (.iload 1, 1), (.iload 2, 1)] (pc' := 39) (S' := ([(0, .ref 206), (1, .int a1), (2, .int a2)], [.int a2, .int a1, .ref 206], rf_MM w m2)) (by decide +kernel) rfl trivial ?_
        obtain ⟨y3, m3, hc3, hg⟩ := rf_b_some hg
        refine rf_callv C rf_fit0 j_X14_missOf (ci := 14) (As := [.int a1, .int a2]) (rest := []) mw_X14_missOf (c_X14_missOf hc3) (by decide) rfl (by decide) lk_14_716 rfl rfl (Nat.le_of_ble_eq_true rfl) (by decide +kernel) ?_
        show rf_V 3 (rf_sh w) K 0 0 42 ([(0, .ref 206), (1, .int a1), (2, .int a2)], [.int y3], rf_MM w m3)
        obtain rfl := Option.some.inj hg
        exact rf_iret C hE (by decide +kernel)
      · replace hg := (if_neg hc).symm.trans hg
        refine rf_seg C [(.iconst (-2147483648), 3)] (pc' := 31) (S' := ([(0, .ref 206), (1, .int a1), (2, .int a2)], [.int ((-2147483648))], rf_MM w (rf_i m 206 0 0))) (by decide +kernel) rfl trivial ?_
        obtain rfl := Option.some.inj hg
        exact rf_iret C hE (by decide +kernel)
-- X14_isWell
abbrev j_X14_isWell : rf_J := (14, yX14_isWell, cX14_isWell, 5, (some .boolean))
theorem mw_X14_isWell : rf_mv j_X14_isWell (rf_R 14) 1 := ⟨⟨rf_mem 62 (by decide +kernel), rf_mem 63 (by decide +kernel), rf_mem 0 (by decide +kernel), rf_mem 63 (by decide +kernel)⟩, by decide +kernel, by decide⟩
def g_X14_isWell_68 (w : rf_w) (rec12 : Int32 → Int32 → Int32 → Int32 → rf_m → Option (Int32 × rf_m)) (a1 : Int32) (a3 : Int32) (a4 : Int32) (s0 : Int32) (m : rf_m) : Option (Int32 × rf_m) := rec12 a1 s0 a3 (a4 + 1) m
def g_X14_isWell_67 (w : rf_w) (rec12 : Int32 → Int32 → Int32 → Int32 → rf_m → Option (Int32 × rf_m)) (a1 : Int32) (a3 : Int32) (a4 : Int32) (m : rf_m) : Option (Int32 × rf_m) := g_X14_isWell_68 w rec12 a1 a3 a4 0 m
def g_X14_isWell_12_b (w : rf_w) (rec12 : Int32 → Int32 → Int32 → Int32 → rf_m → Option (Int32 × rf_m)) (a1 : Int32) (a2 : Int32) (a3 : Int32) (a4 : Int32) (m : rf_m) : Option (Int32 × rf_m) := (if 3 ≤ a4 then rf_g (rf_01 a2) (some (a2, m)) else (if a2 = 0 then g_X14_isWell_67 w rec12 a1 a3 a4 m else rf_g (rf_in ((3 * a1) + a4) 90) (rf_g (rf_in (m.1 243 (Int32.toNatClampNeg ((3 * a1) + a4))) 80) ((if (m.1 248 (Int32.toNatClampNeg (m.1 243 (Int32.toNatClampNeg ((3 * a1) + a4))))) = ((-2)) then g_X14_isWell_67 w rec12 a1 a3 a4 m else rf_g (rf_in ((3 * a1) + a4) 90) (rf_g (rf_in (m.1 243 (Int32.toNatClampNeg ((3 * a1) + a4))) 80) ((if (m.1 248 (Int32.toNatClampNeg (m.1 243 (Int32.toNatClampNeg ((3 * a1) + a4))))) < a3 then g_X14_isWell_67 w rec12 a1 a3 a4 m else g_X14_isWell_68 w rec12 a1 a3 a4 1 m))))))))
def g_X14_isWell_12 (w : rf_w) : Nat → Int32 → Int32 → Int32 → Int32 → rf_m → Option (Int32 × rf_m)
  | 0, _, _, _, _, _ => none
  | n + 1, a1, a2, a3, a4, m => g_X14_isWell_12_b w (g_X14_isWell_12 w n) a1 a2 a3 a4 m
def g_X14_isWell (w : rf_w) (m : rf_m) (a1 : Int32) : Option (Int32 × rf_m) := rf_b (g_X14_latest w m 3 0) fun y0 m0 => g_X14_isWell_12 w rf_fuel a1 1 y0 0 m0
theorem s_X14_isWell_68 {w : rf_w} {K : rf_K} {r : Int32 × rf_m} (C : rf_Ctx 14 cX14_isWell 5 6 (rf_sh w) K) (hE : rf_End (some .boolean) K (rf_sh w) 0 0 (some (.int r.1)) (rf_MM w r.2)) {rec12 : Int32 → Int32 → Int32 → Int32 → rf_m → Option (Int32 × rf_m)} (hr12 : ∀ (a1 : Int32) (a2 : Int32) (a3 : Int32) (a4 : Int32) (m : rf_m), rec12 a1 a2 a3 a4 m = some r → rf_V 5 (rf_sh w) K 0 0 12 ([(0, .ref 206), (1, .int a1), (2, .int a2), (3, .int a3), (4, .int a4)], [], rf_MM w m)) (a1 : Int32) (a3 : Int32) (a4 : Int32) (s0 : Int32) (m : rf_m) (hg : g_X14_isWell_68 w rec12 a1 a3 a4 s0 m = some r) : rf_V 5 (rf_sh w) K 0 0 68 ([(0, .ref 206), (1, .int a1), (3, .int a3), (4, .int a4)], [.int s0], rf_MM w m) := by
  unfold g_X14_isWell_68 at hg
  refine rf_seg C [(.istore 2, 1), (.iinc 4 1, 3)] (pc' := 72) (S' := ([(4, .int (a4 + 1)), (2, .int s0), (0, .ref 206), (1, .int a1), (3, .int a3)], [], rf_MM w m)) (by decide +kernel) rfl trivial ?_
  refine rf_goto C (-60) 12 (by decide +kernel) ?_
  refine rf_few [2, 3, 1, 4, 0] rfl ?_
  exact hr12 a1 s0 a3 (a4 + 1) m hg
theorem s_X14_isWell_67 {w : rf_w} {K : rf_K} {r : Int32 × rf_m} (C : rf_Ctx 14 cX14_isWell 5 6 (rf_sh w) K) (hE : rf_End (some .boolean) K (rf_sh w) 0 0 (some (.int r.1)) (rf_MM w r.2)) {rec12 : Int32 → Int32 → Int32 → Int32 → rf_m → Option (Int32 × rf_m)} (hr12 : ∀ (a1 : Int32) (a2 : Int32) (a3 : Int32) (a4 : Int32) (m : rf_m), rec12 a1 a2 a3 a4 m = some r → rf_V 5 (rf_sh w) K 0 0 12 ([(0, .ref 206), (1, .int a1), (2, .int a2), (3, .int a3), (4, .int a4)], [], rf_MM w m)) (a1 : Int32) (a3 : Int32) (a4 : Int32) (m : rf_m) (hg : g_X14_isWell_67 w rec12 a1 a3 a4 m = some r) : rf_V 5 (rf_sh w) K 0 0 67 ([(0, .ref 206), (1, .int a1), (3, .int a3), (4, .int a4)], [], rf_MM w m) := by
  unfold g_X14_isWell_67 at hg
  refine rf_seg C [(.iconst 0, 1)] (pc' := 68) (S' := ([(0, .ref 206), (1, .int a1), (3, .int a3), (4, .int a4)], [.int 0], rf_MM w m)) (by decide +kernel) rfl trivial ?_
  refine rf_few [0, 1, 2, 3] rfl ?_
  exact s_X14_isWell_68 C hE hr12 a1 a3 a4 0 m hg
theorem s_X14_isWell_12_b {w : rf_w} {K : rf_K} {r : Int32 × rf_m} (C : rf_Ctx 14 cX14_isWell 5 6 (rf_sh w) K) (hE : rf_End (some .boolean) K (rf_sh w) 0 0 (some (.int r.1)) (rf_MM w r.2)) {rec12 : Int32 → Int32 → Int32 → Int32 → rf_m → Option (Int32 × rf_m)} (hr12 : ∀ (a1 : Int32) (a2 : Int32) (a3 : Int32) (a4 : Int32) (m : rf_m), rec12 a1 a2 a3 a4 m = some r → rf_V 5 (rf_sh w) K 0 0 12 ([(0, .ref 206), (1, .int a1), (2, .int a2), (3, .int a3), (4, .int a4)], [], rf_MM w m)) (a1 : Int32) (a2 : Int32) (a3 : Int32) (a4 : Int32) (m : rf_m) (hg : g_X14_isWell_12_b w rec12 a1 a2 a3 a4 m = some r) : rf_V 5 (rf_sh w) K 0 0 12 ([(0, .ref 206), (1, .int a1), (2, .int a2), (3, .int a3), (4, .int a4)], [], rf_MM w m) := by
  unfold g_X14_isWell_12_b at hg
  refine rf_seg C [(.iload 4, 2), (.iconst 3, 1)] (pc' := 15) (S' := ([(0, .ref 206), (1, .int a1), (2, .int a2), (3, .int a3), (4, .int a4)], [.int 3, .int a4], rf_MM w m)) (by decide +kernel) rfl trivial ?_
  refine rf_icmp_ge C 60 75 (by decide +kernel) (fun hc => ?_) (fun hc => ?_)
  · replace hg := (if_pos hc).symm.trans hg
    refine rf_seg C [(.iload 2, 1)] (pc' := 76) (S' := ([(0, .ref 206), (1, .int a1), (2, .int a2), (3, .int a3), (4, .int a4)], [.int a2], rf_MM w m)) (by decide +kernel) rfl trivial ?_
    obtain ⟨q01, hg⟩ := rf_g_some hg
    obtain rfl := Option.some.inj hg
    exact rf_zret C hE (rf_01_of q01) (by decide +kernel)
  · replace hg := (if_neg hc).symm.trans hg
    refine rf_seg C [(.iload 2, 1)] (pc' := 19) (S' := ([(0, .ref 206), (1, .int a1), (2, .int a2), (3, .int a3), (4, .int a4)], [.int a2], rf_MM w m)) (by decide +kernel) rfl trivial ?_
    refine rf_if_eq C 48 67 (by decide +kernel) (fun hc => ?_) (fun hc => ?_)
    · replace hg := (if_pos hc).symm.trans hg
      refine rf_few [0, 1, 3, 4] rfl ?_
      exact s_X14_isWell_67 C hE hr12 a1 a3 a4 m hg
    · replace hg := (if_neg hc).symm.trans hg
      obtain ⟨q0, hg⟩ := rf_g_some hg
      obtain ⟨q1, hg⟩ := rf_g_some hg
      refine rf_seg C [(.aload 0, 1), (.invokeinterface 14 71, 3), (.aload 0, 1), (.invokeinterface 14 66, 3), (.iconst 3, 1), (.iload 1, 1), (.imul, 1), (.iload 4, 2), (.iadd, 1), (.iaload, 1), (.iaload, 1), (.iconst (-2), 2)] (pc' := 40) (S' := ([(0, .ref 206), (1, .int a1), (2, .int a2), (3, .int a3), (4, .int a4)], [.int ((-2)), .int (m.1 248 (Int32.toNatClampNeg (m.1 243 (Int32.toNatClampNeg ((3 * a1) + a4)))))], rf_MM w m)) (by decide +kernel) rfl (by exact ⟨(rf_in_of q0), (rf_in_of q1)⟩) ?_
      refine rf_icmp_eq C 27 67 (by decide +kernel) (fun hc => ?_) (fun hc => ?_)
      · replace hg := (if_pos hc).symm.trans hg
        refine rf_few [0, 1, 3, 4] rfl ?_
        exact s_X14_isWell_67 C hE hr12 a1 a3 a4 m hg
      · replace hg := (if_neg hc).symm.trans hg
        obtain ⟨q2, hg⟩ := rf_g_some hg
        obtain ⟨q3, hg⟩ := rf_g_some hg
        refine rf_seg C [(.aload 0, 1), (.invokeinterface 14 71, 3), (.aload 0, 1), (.invokeinterface 14 66, 3), (.iconst 3, 1), (.iload 1, 1), (.imul, 1), (.iload 4, 2), (.iadd, 1), (.iaload, 1), (.iaload, 1), (.iload 3, 1)] (pc' := 60) (S' := ([(0, .ref 206), (1, .int a1), (2, .int a2), (3, .int a3), (4, .int a4)], [.int a3, .int (m.1 248 (Int32.toNatClampNeg (m.1 243 (Int32.toNatClampNeg ((3 * a1) + a4)))))], rf_MM w m)) (by decide +kernel) rfl (by exact ⟨(rf_in_of q2), (rf_in_of q3)⟩) ?_
        refine rf_icmp_lt C 7 67 (by decide +kernel) (fun hc => ?_) (fun hc => ?_)
        · replace hg := (if_pos hc).symm.trans hg
          refine rf_few [0, 1, 3, 4] rfl ?_
          exact s_X14_isWell_67 C hE hr12 a1 a3 a4 m hg
        · replace hg := (if_neg hc).symm.trans hg
          refine rf_seg C [(.iconst 1, 1)] (pc' := 64) (S' := ([(0, .ref 206), (1, .int a1), (2, .int a2), (3, .int a3), (4, .int a4)], [.int 1], rf_MM w m)) (by decide +kernel) rfl trivial ?_
          refine rf_goto C 4 68 (by decide +kernel) ?_
          refine rf_few [0, 1, 3, 4] rfl ?_
          exact s_X14_isWell_68 C hE hr12 a1 a3 a4 1 m hg
theorem s_X14_isWell_12 {w : rf_w} {K : rf_K} {r : Int32 × rf_m} (C : rf_Ctx 14 cX14_isWell 5 6 (rf_sh w) K) (hE : rf_End (some .boolean) K (rf_sh w) 0 0 (some (.int r.1)) (rf_MM w r.2)) (n : Nat) : ∀ (a1 : Int32) (a2 : Int32) (a3 : Int32) (a4 : Int32) (m : rf_m), g_X14_isWell_12 w n a1 a2 a3 a4 m = some r → rf_V 5 (rf_sh w) K 0 0 12 ([(0, .ref 206), (1, .int a1), (2, .int a2), (3, .int a3), (4, .int a4)], [], rf_MM w m) := by
  induction n with
  | zero => intro a1 a2 a3 a4 m hg; cases hg
  | succ n ih => intro a1 a2 a3 a4 m hg; exact s_X14_isWell_12_b C hE ih a1 a2 a3 a4 m hg
theorem c_X14_isWell {w : rf_w} {m : rf_m} {a1 : Int32} {r : Int32 × rf_m} (hg : g_X14_isWell w m a1 = some r) : rf_Con j_X14_isWell 6 (rf_sh w) [.ref 206, .int a1] (rf_MM w m) (some (.int r.1)) (rf_MM w r.2) := by
  refine rf_con j_X14_isWell 6 ⟨by decide +kernel, rfl, Nat.le_of_ble_eq_true rfl⟩ (fun K C hE => ?_)
  unfold g_X14_isWell at hg
  show rf_V 5 (rf_sh w) K 0 0 0 ([(0, .ref 206), (1, .int a1)], [], rf_MM w m)
  refine rf_seg C [(.iconst 1, 1), (.istore 2, 1), (.aload 0, 1), (.iconst 3, 1), (.iconst 0, 1)] (pc' := 5) (S' := ([(2, .int 1), (0, .ref 206), (1, .int a1)], [.int 0, .int 3, .ref 206], rf_MM w m)) (by decide +kernel) rfl trivial ?_
  obtain ⟨y0, m0, hc0, hg⟩ := rf_b_some hg
  refine rf_callv C rf_fit0 j_X14_latest (ci := 14) (As := [.int 3, .int 0]) (rest := []) mw_X14_latest (c_X14_latest hc0) (by decide) rfl (by decide) lk_14_660 rfl rfl (Nat.le_of_ble_eq_true rfl) (by decide +kernel) ?_
  show rf_V 5 (rf_sh w) K 0 0 8 ([(2, .int 1), (0, .ref 206), (1, .int a1)], [.int y0], rf_MM w m0)
  refine rf_seg C [(.istore 3, 1), (.iconst 0, 1), (.istore 4, 2)] (pc' := 12) (S' := ([(4, .int 0), (3, .int y0), (2, .int 1), (0, .ref 206), (1, .int a1)], [], rf_MM w m0)) (by decide +kernel) rfl trivial ?_
  refine rf_few [3, 4, 2, 1, 0] rfl ?_
  exact s_X14_isWell_12 C hE rf_fuel a1 1 y0 0 m0 hg
-- X14_well
abbrev j_X14_well : rf_J := (14, yX14_well, cX14_well, 2, (some .int))
theorem mw_X14_well : rf_mv j_X14_well (rf_R 14) 1 := ⟨⟨rf_mem 62 (by decide +kernel), rf_mem 62 (by decide +kernel), rf_mem 0 (by decide +kernel), rf_mem 62 (by decide +kernel)⟩, by decide +kernel, by decide⟩
def g_X14_well (w : rf_w) (m : rf_m) (a1 : Int32) : Option (Int32 × rf_m) := rf_b (g_X14_isTriangle w (rf_i m 206 0 0) a1) fun y0 m0 => (if y0 = 0 then some ((-1), m0) else rf_bv (g_X14_allMeans w m0) fun m1 => rf_b (g_X14_isWell w m1 a1) fun y2 m2 => (if y2 = 0 then some (0, m2) else some (1, m2)))
theorem c_X14_well {w : rf_w} {m : rf_m} {a1 : Int32} {r : Int32 × rf_m} (hg : g_X14_well w m a1 = some r) : rf_Con j_X14_well 10 (rf_sh w) [.ref 206, .int a1] (rf_MM w m) (some (.int r.1)) (rf_MM w r.2) := by
  refine rf_con j_X14_well 10 ⟨by decide +kernel, rfl, Nat.le_of_ble_eq_true rfl⟩ (fun K C hE => ?_)
  unfold g_X14_well at hg
  show rf_V 2 (rf_sh w) K 0 0 0 ([(0, .ref 206), (1, .int a1)], [], rf_MM w m)
  refine rf_seg C [(.aload 0, 1), (.iconst 0, 1), (.multianewarray 14 0, 3), (.aload 0, 1), (.iload 1, 1)] (pc' := 7) (S' := ([(0, .ref 206), (1, .int a1)], [.int a1, .ref 206], rf_MM w (rf_i m 206 0 0))) (by decide +kernel) rfl trivial ?_
  obtain ⟨y0, m0, hc0, hg⟩ := rf_b_some hg
  refine rf_callv C rf_fit0 j_X14_isTriangle (ci := 14) (As := [.int a1]) (rest := []) mw_X14_isTriangle (c_X14_isTriangle hc0) (by decide) rfl (by decide) lk_14_719 rfl rfl (Nat.le_of_ble_eq_true rfl) (by decide +kernel) ?_
  show rf_V 2 (rf_sh w) K 0 0 10 ([(0, .ref 206), (1, .int a1)], [.int y0], rf_MM w m0)
  refine rf_if_ne C 5 15 (by decide +kernel) (fun hc => ?_) (fun hc => ?_)
  · replace hg := (if_neg hc).symm.trans hg
    refine rf_seg C [(.aload 0, 1)] (pc' := 16) (S' := ([(0, .ref 206), (1, .int a1)], [.ref 206], rf_MM w m0)) (by decide +kernel) rfl trivial ?_
    obtain ⟨m1, hc1, hg⟩ := rf_bv_some hg
    refine rf_callv C rf_fit0 j_X14_allMeans (ci := 14) (As := []) (rest := []) mw_X14_allMeans (c_X14_allMeans hc1) (by decide) rfl (by decide) lk_14_713 rfl rfl (Nat.le_of_ble_eq_true rfl) (by decide +kernel) ?_
    show rf_V 2 (rf_sh w) K 0 0 19 ([(0, .ref 206), (1, .int a1)], [], rf_MM w m1)
    refine rf_seg C [(.aload 0, 1), (.iload 1, 1)] (pc' := 21) (S' := ([(0, .ref 206), (1, .int a1)], [.int a1, .ref 206], rf_MM w m1)) (by decide +kernel) rfl trivial ?_
    obtain ⟨y2, m2, hc2, hg⟩ := rf_b_some hg
    refine rf_callv C rf_fit0 j_X14_isWell (ci := 14) (As := [.int a1]) (rest := []) mw_X14_isWell (c_X14_isWell hc2) (by decide) rfl (by decide) lk_14_722 rfl rfl (Nat.le_of_ble_eq_true rfl) (by decide +kernel) ?_
    show rf_V 2 (rf_sh w) K 0 0 24 ([(0, .ref 206), (1, .int a1)], [.int y2], rf_MM w m2)
    refine rf_if_eq C 7 31 (by decide +kernel) (fun hc => ?_) (fun hc => ?_)
    · replace hg := (if_pos hc).symm.trans hg
      refine rf_seg C [(.iconst 0, 1)] (pc' := 32) (S' := ([(0, .ref 206), (1, .int a1)], [.int 0], rf_MM w m2)) (by decide +kernel) rfl trivial ?_
      obtain rfl := Option.some.inj hg
      exact rf_iret C hE (by decide +kernel)
    · replace hg := (if_neg hc).symm.trans hg
      refine rf_seg C [(.iconst 1, 1)] (pc' := 28) (S' := ([(0, .ref 206), (1, .int a1)], [.int 1], rf_MM w m2)) (by decide +kernel) rfl trivial ?_
      refine rf_goto C 4 32 (by decide +kernel) ?_
      obtain rfl := Option.some.inj hg
      exact rf_iret C hE (by decide +kernel)
  · replace hg := (if_pos hc).symm.trans hg
    refine rf_seg C [(.iconst (-1), 1)] (pc' := 14) (S' := ([(0, .ref 206), (1, .int a1)], [.int ((-1))], rf_MM w m0)) (by decide +kernel) rfl trivial ?_
    obtain rfl := Option.some.inj hg
    exact rf_iret C hE (by decide +kernel)
-- X14_isWide
abbrev j_X14_isWide : rf_J := (14, yX14_isWide, cX14_isWide, 2, (some .boolean))
theorem mw_X14_isWide : rf_ms j_X14_isWide 2 := ⟨⟨rf_mem 64 (by decide +kernel), rf_mem 0 (by decide +kernel), rf_mem 64 (by decide +kernel)⟩, by decide +kernel, by decide⟩
def g_X14_isWide (w : rf_w) (m : rf_m) (a0 : Int32) (a1 : Int32) : Option (Int32 × rf_m) := (if a0 = ((-2147483648)) then some (0, m) else (if a1 < a0 then some (1, m) else (if (-a1) ≤ a0 then some (0, m) else some (1, m))))
theorem c_X14_isWide {w : rf_w} {m : rf_m} {a0 : Int32} {a1 : Int32} {r : Int32 × rf_m} (hg : g_X14_isWide w m a0 a1 = some r) : rf_Con j_X14_isWide 1 (rf_sh w) [.int a0, .int a1] (rf_MM w m) (some (.int r.1)) (rf_MM w r.2) := by
  refine rf_con j_X14_isWide 1 ⟨by decide +kernel, rfl, Nat.le_of_ble_eq_true rfl⟩ (fun K C hE => ?_)
  unfold g_X14_isWide at hg
  show rf_V 2 (rf_sh w) K 0 0 0 ([(0, .int a0), (1, .int a1)], [], rf_MM w m)
  refine rf_seg C [(.iload 0, 1), (.iconst (-2147483648), 3)] (pc' := 4) (S' := ([(0, .int a0), (1, .int a1)], [.int ((-2147483648)), .int a0], rf_MM w m)) (by decide +kernel) rfl trivial ?_
  refine rf_icmp_eq C 18 22 (by decide +kernel) (fun hc => ?_) (fun hc => ?_)
  · replace hg := (if_pos hc).symm.trans hg
    refine rf_seg C [(.iconst 0, 1)] (pc' := 23) (S' := ([(0, .int a0), (1, .int a1)], [.int 0], rf_MM w m)) (by decide +kernel) rfl trivial ?_
    obtain rfl := Option.some.inj hg
    exact rf_zret C hE (by decide) (by decide +kernel)
  · replace hg := (if_neg hc).symm.trans hg
    refine rf_seg C [(.iload 0, 1), (.iload 1, 1)] (pc' := 9) (S' := ([(0, .int a0), (1, .int a1)], [.int a1, .int a0], rf_MM w m)) (by decide +kernel) rfl trivial ?_
    refine rf_icmp_gt C 9 18 (by decide +kernel) (fun hc => ?_) (fun hc => ?_)
    · replace hg := (if_pos hc).symm.trans hg
      refine rf_seg C [(.iconst 1, 1)] (pc' := 19) (S' := ([(0, .int a0), (1, .int a1)], [.int 1], rf_MM w m)) (by decide +kernel) rfl trivial ?_
      refine rf_goto C 4 23 (by decide +kernel) ?_
      obtain rfl := Option.some.inj hg
      exact rf_zret C hE (by decide) (by decide +kernel)
    · replace hg := (if_neg hc).symm.trans hg
      refine rf_seg C [(.iload 0, 1), (.iload 1, 1), (.ineg, 1)] (pc' := 15) (S' := ([(0, .int a0), (1, .int a1)], [.int (-a1), .int a0], rf_MM w m)) (by decide +kernel) rfl trivial ?_
      refine rf_icmp_ge C 7 22 (by decide +kernel) (fun hc => ?_) (fun hc => ?_)
      · replace hg := (if_pos hc).symm.trans hg
        refine rf_seg C [(.iconst 0, 1)] (pc' := 23) (S' := ([(0, .int a0), (1, .int a1)], [.int 0], rf_MM w m)) (by decide +kernel) rfl trivial ?_
        obtain rfl := Option.some.inj hg
        exact rf_zret C hE (by decide) (by decide +kernel)
      · replace hg := (if_neg hc).symm.trans hg
        refine rf_seg C [(.iconst 1, 1)] (pc' := 19) (S' := ([(0, .int a0), (1, .int a1)], [.int 1], rf_MM w m)) (by decide +kernel) rfl trivial ?_
        refine rf_goto C 4 23 (by decide +kernel) ?_
        obtain rfl := Option.some.inj hg
        exact rf_zret C hE (by decide) (by decide +kernel)
-- X14_wideOnes
abbrev j_X14_wideOnes : rf_J := (14, yX14_wideOnes, cX14_wideOnes, 4, (some .int))
theorem mw_X14_wideOnes : rf_mv j_X14_wideOnes (rf_R 14) 1 := ⟨⟨rf_mem 64 (by decide +kernel), rf_mem 64 (by decide +kernel), rf_mem 0 (by decide +kernel), rf_mem 64 (by decide +kernel)⟩, by decide +kernel, by decide⟩
def g_X14_wideOnes_68 (w : rf_w) (rec41 : Int32 → Int32 → Int32 → rf_m → Option (Int32 × rf_m)) (a1 : Int32) (a3 : Int32) (s0 : Int32) (s1 : Int32) (m : rf_m) : Option (Int32 × rf_m) := rec41 a1 (s0 + s1) (a3 + 1) m
def g_X14_wideOnes_41_b (w : rf_w) (rec41 : Int32 → Int32 → Int32 → rf_m → Option (Int32 × rf_m)) (a1 : Int32) (a2 : Int32) (a3 : Int32) (m : rf_m) : Option (Int32 × rf_m) := (if (m.1 206 65) ≤ a3 then some (a2, m) else rf_b (g_X14_missOf w m a3 1) fun y0 m0 => rf_b (g_X14_isWide w m0 y0 a1) fun y1 m1 => (if y1 = 0 then g_X14_wideOnes_68 w rec41 a1 a3 a2 0 m1 else g_X14_wideOnes_68 w rec41 a1 a3 a2 1 m1))
def g_X14_wideOnes_41 (w : rf_w) : Nat → Int32 → Int32 → Int32 → rf_m → Option (Int32 × rf_m)
  | 0, _, _, _, _ => none
  | n + 1, a1, a2, a3, m => g_X14_wideOnes_41_b w (g_X14_wideOnes_41 w n) a1 a2 a3 m
def g_X14_wideOnes_31 (w : rf_w) (rec4 : Int32 → Int32 → Int32 → rf_m → Option (Int32 × rf_m)) (a1 : Int32) (a3 : Int32) (s0 : Int32) (s1 : Int32) (m : rf_m) : Option (Int32 × rf_m) := rec4 a1 (s0 + s1) (a3 + 1) m
def g_X14_wideOnes_4_b (w : rf_w) (rec4 : Int32 → Int32 → Int32 → rf_m → Option (Int32 × rf_m)) (a1 : Int32) (a2 : Int32) (a3 : Int32) (m : rf_m) : Option (Int32 × rf_m) := (if (m.1 206 64) ≤ a3 then g_X14_wideOnes_41 w rf_fuel a1 a2 0 m else rf_b (g_X14_missOf w m a3 0) fun y0 m0 => rf_b (g_X14_isWide w m0 y0 a1) fun y1 m1 => (if y1 = 0 then g_X14_wideOnes_31 w rec4 a1 a3 a2 0 m1 else g_X14_wideOnes_31 w rec4 a1 a3 a2 1 m1))
def g_X14_wideOnes_4 (w : rf_w) : Nat → Int32 → Int32 → Int32 → rf_m → Option (Int32 × rf_m)
  | 0, _, _, _, _ => none
  | n + 1, a1, a2, a3, m => g_X14_wideOnes_4_b w (g_X14_wideOnes_4 w n) a1 a2 a3 m
def g_X14_wideOnes (w : rf_w) (m : rf_m) (a1 : Int32) : Option (Int32 × rf_m) := g_X14_wideOnes_4 w rf_fuel a1 0 0 m
theorem s_X14_wideOnes_68 {w : rf_w} {K : rf_K} {r : Int32 × rf_m} (C : rf_Ctx 14 cX14_wideOnes 4 3 (rf_sh w) K) (hE : rf_End (some .int) K (rf_sh w) 0 0 (some (.int r.1)) (rf_MM w r.2)) {rec41 : Int32 → Int32 → Int32 → rf_m → Option (Int32 × rf_m)} (hr41 : ∀ (a1 : Int32) (a2 : Int32) (a3 : Int32) (m : rf_m), rec41 a1 a2 a3 m = some r → rf_V 4 (rf_sh w) K 0 0 41 ([(0, .ref 206), (1, .int a1), (2, .int a2), (3, .int a3)], [], rf_MM w m)) (a1 : Int32) (a3 : Int32) (s0 : Int32) (s1 : Int32) (m : rf_m) (hg : g_X14_wideOnes_68 w rec41 a1 a3 s0 s1 m = some r) : rf_V 4 (rf_sh w) K 0 0 68 ([(0, .ref 206), (1, .int a1), (3, .int a3)], [.int s1, .int s0], rf_MM w m) := by
  unfold g_X14_wideOnes_68 at hg
  refine rf_seg C [(.iadd, 1), (.istore 2, 1), (.iinc 3 1, 3)] (pc' := 73) (S' := ([(3, .int (a3 + 1)), (2, .int (s0 + s1)), (0, .ref 206), (1, .int a1)], [], rf_MM w m)) (by decide +kernel) rfl trivial ?_
  refine rf_goto C (-32) 41 (by decide +kernel) ?_
  refine rf_few [2, 3, 1, 0] rfl ?_
  exact hr41 a1 (s0 + s1) (a3 + 1) m hg
theorem s_X14_wideOnes_41_b {w : rf_w} {K : rf_K} {r : Int32 × rf_m} (C : rf_Ctx 14 cX14_wideOnes 4 3 (rf_sh w) K) (hE : rf_End (some .int) K (rf_sh w) 0 0 (some (.int r.1)) (rf_MM w r.2)) {rec41 : Int32 → Int32 → Int32 → rf_m → Option (Int32 × rf_m)} (hr41 : ∀ (a1 : Int32) (a2 : Int32) (a3 : Int32) (m : rf_m), rec41 a1 a2 a3 m = some r → rf_V 4 (rf_sh w) K 0 0 41 ([(0, .ref 206), (1, .int a1), (2, .int a2), (3, .int a3)], [], rf_MM w m)) (a1 : Int32) (a2 : Int32) (a3 : Int32) (m : rf_m) (hg : g_X14_wideOnes_41_b w rec41 a1 a2 a3 m = some r) : rf_V 4 (rf_sh w) K 0 0 41 ([(0, .ref 206), (1, .int a1), (2, .int a2), (3, .int a3)], [], rf_MM w m) := by
  unfold g_X14_wideOnes_41_b at hg
  refine rf_seg C [(.iload 3, 1), (.aload 0, 1), (.invokeinterface 14 65, 3)] (pc' := 46) (S' := ([(0, .ref 206), (1, .int a1), (2, .int a2), (3, .int a3)], [.int (m.1 206 65), .int a3], rf_MM w m)) (by decide +kernel) rfl trivial ?_
  refine rf_icmp_ge C 30 76 (by decide +kernel) (fun hc => ?_) (fun hc => ?_)
  · replace hg := (if_pos hc).symm.trans hg
    refine rf_seg C [(.iload 2, 1)] (pc' := 77) (S' := ([(0, .ref 206), (1, .int a1), (2, .int a2), (3, .int a3)], [.int a2], rf_MM w m)) (by decide +kernel) rfl trivial ?_
    obtain rfl := Option.some.inj hg
    exact rf_iret C hE (by decide +kernel)
  · replace hg := (if_neg hc).symm.trans hg
    refine rf_seg C [(.iload 2, 1), (.aload 0, 1), (.iload 3, 1), (.iconst 1, 1)] (pc' := 53) (S' := ([(0, .ref 206), (1, .int a1), (2, .int a2), (3, .int a3)], [.int 1, .int a3, .ref 206, .int a2], rf_MM w m)) (by decide +kernel) rfl trivial ?_
    obtain ⟨y0, m0, hc0, hg⟩ := rf_b_some hg
    refine rf_callv C rf_fit0 j_X14_missOf (ci := 14) (As := [.int a3, .int 1]) (rest := [.int a2]) mw_X14_missOf (c_X14_missOf hc0) (by decide) rfl (by decide) lk_14_716 rfl rfl (Nat.le_of_ble_eq_true rfl) (by decide +kernel) ?_
    show rf_V 4 (rf_sh w) K 0 0 56 ([(0, .ref 206), (1, .int a1), (2, .int a2), (3, .int a3)], [.int y0, .int a2], rf_MM w m0)
    refine rf_seg C [(.iload 1, 1)] (pc' := 57) (S' := ([(0, .ref 206), (1, .int a1), (2, .int a2), (3, .int a3)], [.int a1, .int y0, .int a2], rf_MM w m0)) (by decide +kernel) rfl trivial ?_
    obtain ⟨y1, m1, hc1, hg⟩ := rf_b_some hg
    refine rf_calls C rf_fit0 j_X14_isWide (As := [.int y0, .int a1]) (rest := [.int a2]) mw_X14_isWide (c_X14_isWide hc1) (by decide) lk_14_725 rfl rfl (Nat.le_of_ble_eq_true rfl) (by decide +kernel) ?_
    show rf_V 4 (rf_sh w) K 0 0 60 ([(0, .ref 206), (1, .int a1), (2, .int a2), (3, .int a3)], [.int y1, .int a2], rf_MM w m1)
    refine rf_if_eq C 7 67 (by decide +kernel) (fun hc => ?_) (fun hc => ?_)
    · replace hg := (if_pos hc).symm.trans hg
      refine rf_seg C [(.iconst 0, 1)] (pc' := 68) (S' := ([(0, .ref 206), (1, .int a1), (2, .int a2), (3, .int a3)], [.int 0, .int a2], rf_MM w m1)) (by decide +kernel) rfl trivial ?_
      refine rf_few [0, 1, 3] rfl ?_
      exact s_X14_wideOnes_68 C hE hr41 a1 a3 a2 0 m1 hg
    · replace hg := (if_neg hc).symm.trans hg
      refine rf_seg C [(.iconst 1, 1)] (pc' := 64) (S' := ([(0, .ref 206), (1, .int a1), (2, .int a2), (3, .int a3)], [.int 1, .int a2], rf_MM w m1)) (by decide +kernel) rfl trivial ?_
      refine rf_goto C 4 68 (by decide +kernel) ?_
      refine rf_few [0, 1, 3] rfl ?_
      exact s_X14_wideOnes_68 C hE hr41 a1 a3 a2 1 m1 hg
theorem s_X14_wideOnes_41 {w : rf_w} {K : rf_K} {r : Int32 × rf_m} (C : rf_Ctx 14 cX14_wideOnes 4 3 (rf_sh w) K) (hE : rf_End (some .int) K (rf_sh w) 0 0 (some (.int r.1)) (rf_MM w r.2)) (n : Nat) : ∀ (a1 : Int32) (a2 : Int32) (a3 : Int32) (m : rf_m), g_X14_wideOnes_41 w n a1 a2 a3 m = some r → rf_V 4 (rf_sh w) K 0 0 41 ([(0, .ref 206), (1, .int a1), (2, .int a2), (3, .int a3)], [], rf_MM w m) := by
  induction n with
  | zero => intro a1 a2 a3 m hg; cases hg
  | succ n ih => intro a1 a2 a3 m hg; exact s_X14_wideOnes_41_b C hE ih a1 a2 a3 m hg
theorem s_X14_wideOnes_31 {w : rf_w} {K : rf_K} {r : Int32 × rf_m} (C : rf_Ctx 14 cX14_wideOnes 4 3 (rf_sh w) K) (hE : rf_End (some .int) K (rf_sh w) 0 0 (some (.int r.1)) (rf_MM w r.2)) {rec4 : Int32 → Int32 → Int32 → rf_m → Option (Int32 × rf_m)} (hr4 : ∀ (a1 : Int32) (a2 : Int32) (a3 : Int32) (m : rf_m), rec4 a1 a2 a3 m = some r → rf_V 4 (rf_sh w) K 0 0 4 ([(0, .ref 206), (1, .int a1), (2, .int a2), (3, .int a3)], [], rf_MM w m)) (a1 : Int32) (a3 : Int32) (s0 : Int32) (s1 : Int32) (m : rf_m) (hg : g_X14_wideOnes_31 w rec4 a1 a3 s0 s1 m = some r) : rf_V 4 (rf_sh w) K 0 0 31 ([(0, .ref 206), (1, .int a1), (3, .int a3)], [.int s1, .int s0], rf_MM w m) := by
  unfold g_X14_wideOnes_31 at hg
  refine rf_seg C [(.iadd, 1), (.istore 2, 1), (.iinc 3 1, 3)] (pc' := 36) (S' := ([(3, .int (a3 + 1)), (2, .int (s0 + s1)), (0, .ref 206), (1, .int a1)], [], rf_MM w m)) (by decide +kernel) rfl trivial ?_
  refine rf_goto C (-32) 4 (by decide +kernel) ?_
  refine rf_few [2, 3, 1, 0] rfl ?_
  exact hr4 a1 (s0 + s1) (a3 + 1) m hg
theorem s_X14_wideOnes_4_b {w : rf_w} {K : rf_K} {r : Int32 × rf_m} (C : rf_Ctx 14 cX14_wideOnes 4 3 (rf_sh w) K) (hE : rf_End (some .int) K (rf_sh w) 0 0 (some (.int r.1)) (rf_MM w r.2)) {rec4 : Int32 → Int32 → Int32 → rf_m → Option (Int32 × rf_m)} (hr4 : ∀ (a1 : Int32) (a2 : Int32) (a3 : Int32) (m : rf_m), rec4 a1 a2 a3 m = some r → rf_V 4 (rf_sh w) K 0 0 4 ([(0, .ref 206), (1, .int a1), (2, .int a2), (3, .int a3)], [], rf_MM w m)) (a1 : Int32) (a2 : Int32) (a3 : Int32) (m : rf_m) (hg : g_X14_wideOnes_4_b w rec4 a1 a2 a3 m = some r) : rf_V 4 (rf_sh w) K 0 0 4 ([(0, .ref 206), (1, .int a1), (2, .int a2), (3, .int a3)], [], rf_MM w m) := by
  unfold g_X14_wideOnes_4_b at hg
  refine rf_seg C [(.iload 3, 1), (.aload 0, 1), (.invokeinterface 14 64, 3)] (pc' := 9) (S' := ([(0, .ref 206), (1, .int a1), (2, .int a2), (3, .int a3)], [.int (m.1 206 64), .int a3], rf_MM w m)) (by decide +kernel) rfl trivial ?_
  refine rf_icmp_ge C 30 39 (by decide +kernel) (fun hc => ?_) (fun hc => ?_)
  · replace hg := (if_pos hc).symm.trans hg
    refine rf_seg C [(.iconst 0, 1), (.istore 3, 1)] (pc' := 41) (S' := ([(3, .int 0), (0, .ref 206), (1, .int a1), (2, .int a2)], [], rf_MM w m)) (by decide +kernel) rfl trivial ?_
    refine rf_few [1, 2, 3, 0] rfl ?_
    exact s_X14_wideOnes_41 C hE rf_fuel a1 a2 0 m hg
  · replace hg := (if_neg hc).symm.trans hg
    refine rf_seg C [(.iload 2, 1), (.aload 0, 1), (.iload 3, 1), (.iconst 0, 1)] (pc' := 16) (S' := ([(0, .ref 206), (1, .int a1), (2, .int a2), (3, .int a3)], [.int 0, .int a3, .ref 206, .int a2], rf_MM w m)) (by decide +kernel) rfl trivial ?_
    obtain ⟨y0, m0, hc0, hg⟩ := rf_b_some hg
    refine rf_callv C rf_fit0 j_X14_missOf (ci := 14) (As := [.int a3, .int 0]) (rest := [.int a2]) mw_X14_missOf (c_X14_missOf hc0) (by decide) rfl (by decide) lk_14_716 rfl rfl (Nat.le_of_ble_eq_true rfl) (by decide +kernel) ?_
    show rf_V 4 (rf_sh w) K 0 0 19 ([(0, .ref 206), (1, .int a1), (2, .int a2), (3, .int a3)], [.int y0, .int a2], rf_MM w m0)
    refine rf_seg C [(.iload 1, 1)] (pc' := 20) (S' := ([(0, .ref 206), (1, .int a1), (2, .int a2), (3, .int a3)], [.int a1, .int y0, .int a2], rf_MM w m0)) (by decide +kernel) rfl trivial ?_
    obtain ⟨y1, m1, hc1, hg⟩ := rf_b_some hg
    refine rf_calls C rf_fit0 j_X14_isWide (As := [.int y0, .int a1]) (rest := [.int a2]) mw_X14_isWide (c_X14_isWide hc1) (by decide) lk_14_725 rfl rfl (Nat.le_of_ble_eq_true rfl) (by decide +kernel) ?_
    show rf_V 4 (rf_sh w) K 0 0 23 ([(0, .ref 206), (1, .int a1), (2, .int a2), (3, .int a3)], [.int y1, .int a2], rf_MM w m1)
    refine rf_if_eq C 7 30 (by decide +kernel) (fun hc => ?_) (fun hc => ?_)
    · replace hg := (if_pos hc).symm.trans hg
      refine rf_seg C [(.iconst 0, 1)] (pc' := 31) (S' := ([(0, .ref 206), (1, .int a1), (2, .int a2), (3, .int a3)], [.int 0, .int a2], rf_MM w m1)) (by decide +kernel) rfl trivial ?_
      refine rf_few [0, 1, 3] rfl ?_
      exact s_X14_wideOnes_31 C hE hr4 a1 a3 a2 0 m1 hg
    · replace hg := (if_neg hc).symm.trans hg
      refine rf_seg C [(.iconst 1, 1)] (pc' := 27) (S' := ([(0, .ref 206), (1, .int a1), (2, .int a2), (3, .int a3)], [.int 1, .int a2], rf_MM w m1)) (by decide +kernel) rfl trivial ?_
      refine rf_goto C 4 31 (by decide +kernel) ?_
      refine rf_few [0, 1, 3] rfl ?_
      exact s_X14_wideOnes_31 C hE hr4 a1 a3 a2 1 m1 hg
theorem s_X14_wideOnes_4 {w : rf_w} {K : rf_K} {r : Int32 × rf_m} (C : rf_Ctx 14 cX14_wideOnes 4 3 (rf_sh w) K) (hE : rf_End (some .int) K (rf_sh w) 0 0 (some (.int r.1)) (rf_MM w r.2)) (n : Nat) : ∀ (a1 : Int32) (a2 : Int32) (a3 : Int32) (m : rf_m), g_X14_wideOnes_4 w n a1 a2 a3 m = some r → rf_V 4 (rf_sh w) K 0 0 4 ([(0, .ref 206), (1, .int a1), (2, .int a2), (3, .int a3)], [], rf_MM w m) := by
  induction n with
  | zero => intro a1 a2 a3 m hg; cases hg
  | succ n ih => intro a1 a2 a3 m hg; exact s_X14_wideOnes_4_b C hE ih a1 a2 a3 m hg
theorem c_X14_wideOnes {w : rf_w} {m : rf_m} {a1 : Int32} {r : Int32 × rf_m} (hg : g_X14_wideOnes w m a1 = some r) : rf_Con j_X14_wideOnes 3 (rf_sh w) [.ref 206, .int a1] (rf_MM w m) (some (.int r.1)) (rf_MM w r.2) := by
  refine rf_con j_X14_wideOnes 3 ⟨by decide +kernel, rfl, Nat.le_of_ble_eq_true rfl⟩ (fun K C hE => ?_)
  unfold g_X14_wideOnes at hg
  show rf_V 4 (rf_sh w) K 0 0 0 ([(0, .ref 206), (1, .int a1)], [], rf_MM w m)
  refine rf_seg C [(.iconst 0, 1), (.istore 2, 1), (.iconst 0, 1), (.istore 3, 1)] (pc' := 4) (S' := ([(3, .int 0), (2, .int 0), (0, .ref 206), (1, .int a1)], [], rf_MM w m)) (by decide +kernel) rfl trivial ?_
  refine rf_few [2, 3, 1, 0] rfl ?_
  exact s_X14_wideOnes_4 C hE rf_fuel a1 0 0 m hg
-- X14_wide
abbrev j_X14_wide : rf_J := (14, yX14_wide, cX14_wide, 1, (some .int))
theorem mw_X14_wide : rf_mv j_X14_wide (rf_R 14) 0 := ⟨⟨rf_mem 63 (by decide +kernel), rf_mem 63 (by decide +kernel), rf_mem 0 (by decide +kernel), rf_mem 63 (by decide +kernel)⟩, by decide +kernel, by decide⟩
def g_X14_wide (w : rf_w) (m : rf_m) : Option (Int32 × rf_m) := rf_bv (g_X14_allMeans w (rf_i m 206 0 0)) fun m0 => rf_b (g_X14_allowed w m0) fun y1 m1 => rf_b (g_X14_wideOnes w m1 y1) fun y2 m2 => some (y2, m2)
theorem c_X14_wide {w : rf_w} {m : rf_m} {r : Int32 × rf_m} (hg : g_X14_wide w m = some r) : rf_Con j_X14_wide 10 (rf_sh w) [.ref 206] (rf_MM w m) (some (.int r.1)) (rf_MM w r.2) := by
  refine rf_con j_X14_wide 10 ⟨by decide +kernel, rfl, Nat.le_of_ble_eq_true rfl⟩ (fun K C hE => ?_)
  unfold g_X14_wide at hg
  show rf_V 1 (rf_sh w) K 0 0 0 ([(0, .ref 206)], [], rf_MM w m)
  refine rf_seg C [(.aload 0, 1), (.iconst 0, 1), (.multianewarray 14 0, 3), (.aload 0, 1)] (pc' := 6) (S' := ([(0, .ref 206)], [.ref 206], rf_MM w (rf_i m 206 0 0))) (by decide +kernel) rfl trivial ?_
  obtain ⟨m0, hc0, hg⟩ := rf_bv_some hg
  refine rf_callv C rf_fit0 j_X14_allMeans (ci := 14) (As := []) (rest := []) mw_X14_allMeans (c_X14_allMeans hc0) (by decide) rfl (by decide) lk_14_713 rfl rfl (Nat.le_of_ble_eq_true rfl) (by decide +kernel) ?_
  show rf_V 1 (rf_sh w) K 0 0 9 ([(0, .ref 206)], [], rf_MM w m0)
  refine rf_seg C [(.aload 0, 1), (.aload 0, 1)] (pc' := 11) (S' := ([(0, .ref 206)], [.ref 206, .ref 206], rf_MM w m0)) (by decide +kernel) rfl trivial ?_
  obtain ⟨y1, m1, hc1, hg⟩ := rf_b_some hg
  refine rf_callv C rf_fit0 j_X14_allowed (ci := 14) (As := []) (rest := [.ref 206]) mw_X14_allowed (c_X14_allowed hc1) (by decide) rfl (by decide) lk_14_663 rfl rfl (Nat.le_of_ble_eq_true rfl) (by decide +kernel) ?_
  show rf_V 1 (rf_sh w) K 0 0 14 ([(0, .ref 206)], [.int y1, .ref 206], rf_MM w m1)
  obtain ⟨y2, m2, hc2, hg⟩ := rf_b_some hg
  refine rf_callv C rf_fit0 j_X14_wideOnes (ci := 14) (As := [.int y1]) (rest := []) mw_X14_wideOnes (c_X14_wideOnes hc2) (by decide) rfl (by decide) lk_14_728 rfl rfl (Nat.le_of_ble_eq_true rfl) (by decide +kernel) ?_
  show rf_V 1 (rf_sh w) K 0 0 17 ([(0, .ref 206)], [.int y2], rf_MM w m2)
  obtain rfl := Option.some.inj hg
  exact rf_iret C hE (by decide +kernel)
-- X14_adds__250_250
abbrev j_X14_adds__250_250 : rf_J := (14, yX14_adds, cX14_adds, 7, none)
theorem mw_X14_adds__250_250 : rf_ms j_X14_adds__250_250 4 := ⟨⟨rf_mem 71 (by decide +kernel), rf_mem 0 (by decide +kernel), rf_mem 71 (by decide +kernel)⟩, by decide +kernel, by decide⟩
def g_X14_adds__250_250_6_b (w : rf_w) (rec6 : Int32 → Int32 → Int64 → Int32 → rf_m → Option (rf_m)) (a1 : Int32) (a3 : Int32) (a4 : Int64) (a6 : Int32) (m : rf_m) : Option (rf_m) := (if 6 ≤ a6 then some m else rf_g (rf_in (a1 + a6) 6) (rf_g (rf_in (a3 + a6) 6) (rf_vl (a4 + (((Int32.toInt64 (m.1 250 (Int32.toNatClampNeg (a1 + a6)))) &&& 4294967295) + ((Int32.toInt64 (m.1 250 (Int32.toNatClampNeg (a3 + a6)))) &&& 4294967295))) fun x2 => rf_g (rf_in (a1 + a6) 6) (rf_vl ((Int64.toUInt64 x2 >>> ((Int32.toInt64 32).toUInt64 &&& Int64.toUInt64 63)).toInt64) fun x4 => rec6 a1 a3 x4 (a6 + 1) (rf_i m 250 (Int32.toNatClampNeg (a1 + a6)) (Int64.toInt32 x2))))))
def g_X14_adds__250_250_6 (w : rf_w) : Nat → Int32 → Int32 → Int64 → Int32 → rf_m → Option (rf_m)
  | 0, _, _, _, _, _ => none
  | n + 1, a1, a3, a4, a6, m => g_X14_adds__250_250_6_b w (g_X14_adds__250_250_6 w n) a1 a3 a4 a6 m
def g_X14_adds__250_250 (w : rf_w) (m : rf_m) (a1 : Int32) (a3 : Int32) : Option (rf_m) := g_X14_adds__250_250_6 w rf_fuel a1 a3 0 0 m
theorem s_X14_adds__250_250_6_b {w : rf_w} {K : rf_K} {r : rf_m} (C : rf_Ctx 14 cX14_adds 7 1 (rf_sh w) K) (hE : rf_End none K (rf_sh w) 0 0 none (rf_MM w r)) {rec6 : Int32 → Int32 → Int64 → Int32 → rf_m → Option (rf_m)} (hr6 : ∀ (a1 : Int32) (a3 : Int32) (a4 : Int64) (a6 : Int32) (m : rf_m), rec6 a1 a3 a4 a6 m = some r → rf_V 7 (rf_sh w) K 0 0 6 ([(0, .ref 250), (1, .int a1), (2, .ref 250), (3, .int a3), (4, .long a4), (6, .int a6)], [], rf_MM w m)) (a1 : Int32) (a3 : Int32) (a4 : Int64) (a6 : Int32) (m : rf_m) (hg : g_X14_adds__250_250_6_b w rec6 a1 a3 a4 a6 m = some r) : rf_V 7 (rf_sh w) K 0 0 6 ([(0, .ref 250), (1, .int a1), (2, .ref 250), (3, .int a3), (4, .long a4), (6, .int a6)], [], rf_MM w m) := by
  unfold g_X14_adds__250_250_6_b at hg
  refine rf_seg C [(.iload 6, 2), (.iconst 6, 2)] (pc' := 10) (S' := ([(0, .ref 250), (1, .int a1), (2, .ref 250), (3, .int a3), (4, .long a4), (6, .int a6)], [.int 6, .int a6], rf_MM w m)) (by decide +kernel) rfl trivial ?_
  refine rf_icmp_ge C 53 63 (by decide +kernel) (fun hc => ?_) (fun hc => ?_)
  · replace hg := (if_pos hc).symm.trans hg
    obtain rfl := Option.some.inj hg
    exact rf_vret C hE (by decide +kernel)
  · replace hg := (if_neg hc).symm.trans hg
    obtain ⟨q0, hg⟩ := rf_g_some hg
    obtain ⟨q1, hg⟩ := rf_g_some hg
    refine rf_seg C [(.lload 4, 2), (.aload 0, 1), (.iload 1, 1), (.iload 6, 2), (.iadd, 1), (.iaload, 1), (.i2l, 1), (.goto_w 4294967295, 3), (.land, 1), (.aload 2, 1), (.iload 3, 1), (.iload 6, 2), (.iadd, 1), (.iaload, 1), (.i2l, 1), (.goto_w 4294967295, 3), (.land, 1), (.ladd, 1), (.ladd, 1)] (pc' := 39) (S' := ([(0, .ref 250), (1, .int a1), (2, .ref 250), (3, .int a3), (4, .long a4), (6, .int a6)], [.long (a4 + (((Int32.toInt64 (m.1 250 (Int32.toNatClampNeg (a1 + a6)))) &&& 4294967295) + ((Int32.toInt64 (m.1 250 (Int32.toNatClampNeg (a3 + a6)))) &&& 4294967295)))], rf_MM w m)) (by decide +kernel) rfl (by exact ⟨(rf_in_of q0), (rf_in_of q1)⟩) ?_
    obtain ⟨x2, hx2, hg⟩ := rf_vl_some hg
    refine rf_vl_top hx2 ?_
    obtain ⟨q3, hg⟩ := rf_g_some hg
    refine rf_seg C [(.lstore 4, 2), (.aload 0, 1), (.iload 1, 1), (.iload 6, 2), (.iadd, 1), (.lload 4, 2), (.l2i, 1), (.iastore, 1), (.lload 4, 2), (.iconst 32, 2), (.lushr, 1)] (pc' := 55) (S' := ([(4, .long x2), (0, .ref 250), (1, .int a1), (2, .ref 250), (3, .int a3), (6, .int a6)], [.long ((Int64.toUInt64 x2 >>> ((Int32.toInt64 32).toUInt64 &&& Int64.toUInt64 63)).toInt64)], rf_MM w (rf_i m 250 (Int32.toNatClampNeg (a1 + a6)) (Int64.toInt32 x2)))) (by decide +kernel) rfl (rf_in_of q3) ?_
    obtain ⟨x4, hx4, hg⟩ := rf_vl_some hg
    refine rf_vl_top hx4 ?_
    refine rf_seg C [(.lstore 4, 2), (.iinc 6 1, 3)] (pc' := 60) (S' := ([(6, .int (a6 + 1)), (4, .long x4), (0, .ref 250), (1, .int a1), (2, .ref 250), (3, .int a3)], [], rf_MM w (rf_i m 250 (Int32.toNatClampNeg (a1 + a6)) (Int64.toInt32 x2)))) (by decide +kernel) rfl trivial ?_
    refine rf_goto C (-54) 6 (by decide +kernel) ?_
    refine rf_few [2, 3, 4, 5, 1, 0] rfl ?_
    exact hr6 a1 a3 x4 (a6 + 1) (rf_i m 250 (Int32.toNatClampNeg (a1 + a6)) (Int64.toInt32 x2)) hg
theorem s_X14_adds__250_250_6 {w : rf_w} {K : rf_K} {r : rf_m} (C : rf_Ctx 14 cX14_adds 7 1 (rf_sh w) K) (hE : rf_End none K (rf_sh w) 0 0 none (rf_MM w r)) (n : Nat) : ∀ (a1 : Int32) (a3 : Int32) (a4 : Int64) (a6 : Int32) (m : rf_m), g_X14_adds__250_250_6 w n a1 a3 a4 a6 m = some r → rf_V 7 (rf_sh w) K 0 0 6 ([(0, .ref 250), (1, .int a1), (2, .ref 250), (3, .int a3), (4, .long a4), (6, .int a6)], [], rf_MM w m) := by
  induction n with
  | zero => intro a1 a3 a4 a6 m hg; cases hg
  | succ n ih => intro a1 a3 a4 a6 m hg; exact s_X14_adds__250_250_6_b C hE ih a1 a3 a4 a6 m hg
theorem c_X14_adds__250_250 {w : rf_w} {m : rf_m} {a1 : Int32} {a3 : Int32} {r : rf_m} (hg : g_X14_adds__250_250 w m a1 a3 = some r) : rf_Con j_X14_adds__250_250 1 (rf_sh w) [.ref 250, .int a1, .ref 250, .int a3] (rf_MM w m) none (rf_MM w r) := by
  refine rf_con j_X14_adds__250_250 1 ⟨by decide +kernel, rfl, Nat.le_of_ble_eq_true rfl⟩ (fun K C hE => ?_)
  unfold g_X14_adds__250_250 at hg
  show rf_V 7 (rf_sh w) K 0 0 0 ([(0, .ref 250), (1, .int a1), (2, .ref 250), (3, .int a3)], [], rf_MM w m)
  refine rf_seg C [(.goto_w 0, 1), (.lstore 4, 2), (.iconst 0, 1), (.istore 6, 2)] (pc' := 6) (S' := ([(6, .int 0), (4, .long 0), (0, .ref 250), (1, .int a1), (2, .ref 250), (3, .int a3)], [], rf_MM w m)) (by decide +kernel) rfl trivial ?_
  refine rf_few [2, 3, 4, 5, 1, 0] rfl ?_
  exact s_X14_adds__250_250_6 C hE rf_fuel a1 a3 0 0 m hg
-- X14_adds__249_249
abbrev j_X14_adds__249_249 : rf_J := (14, yX14_adds, cX14_adds, 7, none)
theorem mw_X14_adds__249_249 : rf_ms j_X14_adds__249_249 4 := ⟨⟨rf_mem 71 (by decide +kernel), rf_mem 0 (by decide +kernel), rf_mem 71 (by decide +kernel)⟩, by decide +kernel, by decide⟩
def g_X14_adds__249_249_6_b (w : rf_w) (rec6 : Int32 → Int32 → Int64 → Int32 → rf_m → Option (rf_m)) (a1 : Int32) (a3 : Int32) (a4 : Int64) (a6 : Int32) (m : rf_m) : Option (rf_m) := (if 6 ≤ a6 then some m else rf_g (rf_in (a1 + a6) 6) (rf_g (rf_in (a3 + a6) 6) (rf_vl (a4 + (((Int32.toInt64 (m.1 249 (Int32.toNatClampNeg (a1 + a6)))) &&& 4294967295) + ((Int32.toInt64 (m.1 249 (Int32.toNatClampNeg (a3 + a6)))) &&& 4294967295))) fun x2 => rf_g (rf_in (a1 + a6) 6) (rf_vl ((Int64.toUInt64 x2 >>> ((Int32.toInt64 32).toUInt64 &&& Int64.toUInt64 63)).toInt64) fun x4 => rec6 a1 a3 x4 (a6 + 1) (rf_i m 249 (Int32.toNatClampNeg (a1 + a6)) (Int64.toInt32 x2))))))
def g_X14_adds__249_249_6 (w : rf_w) : Nat → Int32 → Int32 → Int64 → Int32 → rf_m → Option (rf_m)
  | 0, _, _, _, _, _ => none
  | n + 1, a1, a3, a4, a6, m => g_X14_adds__249_249_6_b w (g_X14_adds__249_249_6 w n) a1 a3 a4 a6 m
def g_X14_adds__249_249 (w : rf_w) (m : rf_m) (a1 : Int32) (a3 : Int32) : Option (rf_m) := g_X14_adds__249_249_6 w rf_fuel a1 a3 0 0 m
theorem s_X14_adds__249_249_6_b {w : rf_w} {K : rf_K} {r : rf_m} (C : rf_Ctx 14 cX14_adds 7 1 (rf_sh w) K) (hE : rf_End none K (rf_sh w) 0 0 none (rf_MM w r)) {rec6 : Int32 → Int32 → Int64 → Int32 → rf_m → Option (rf_m)} (hr6 : ∀ (a1 : Int32) (a3 : Int32) (a4 : Int64) (a6 : Int32) (m : rf_m), rec6 a1 a3 a4 a6 m = some r → rf_V 7 (rf_sh w) K 0 0 6 ([(0, .ref 249), (1, .int a1), (2, .ref 249), (3, .int a3), (4, .long a4), (6, .int a6)], [], rf_MM w m)) (a1 : Int32) (a3 : Int32) (a4 : Int64) (a6 : Int32) (m : rf_m) (hg : g_X14_adds__249_249_6_b w rec6 a1 a3 a4 a6 m = some r) : rf_V 7 (rf_sh w) K 0 0 6 ([(0, .ref 249), (1, .int a1), (2, .ref 249), (3, .int a3), (4, .long a4), (6, .int a6)], [], rf_MM w m) := by
  unfold g_X14_adds__249_249_6_b at hg
  refine rf_seg C [(.iload 6, 2), (.iconst 6, 2)] (pc' := 10) (S' := ([(0, .ref 249), (1, .int a1), (2, .ref 249), (3, .int a3), (4, .long a4), (6, .int a6)], [.int 6, .int a6], rf_MM w m)) (by decide +kernel) rfl trivial ?_
  refine rf_icmp_ge C 53 63 (by decide +kernel) (fun hc => ?_) (fun hc => ?_)
  · replace hg := (if_pos hc).symm.trans hg
    obtain rfl := Option.some.inj hg
    exact rf_vret C hE (by decide +kernel)
  · replace hg := (if_neg hc).symm.trans hg
    obtain ⟨q0, hg⟩ := rf_g_some hg
    obtain ⟨q1, hg⟩ := rf_g_some hg
    refine rf_seg C [(.lload 4, 2), (.aload 0, 1), (.iload 1, 1), (.iload 6, 2), (.iadd, 1), (.iaload, 1), (.i2l, 1), (.goto_w 4294967295, 3), (.land, 1), (.aload 2, 1), (.iload 3, 1), (.iload 6, 2), (.iadd, 1), (.iaload, 1), (.i2l, 1), (.goto_w 4294967295, 3), (.land, 1), (.ladd, 1), (.ladd, 1)] (pc' := 39) (S' := ([(0, .ref 249), (1, .int a1), (2, .ref 249), (3, .int a3), (4, .long a4), (6, .int a6)], [.long (a4 + (((Int32.toInt64 (m.1 249 (Int32.toNatClampNeg (a1 + a6)))) &&& 4294967295) + ((Int32.toInt64 (m.1 249 (Int32.toNatClampNeg (a3 + a6)))) &&& 4294967295)))], rf_MM w m)) (by decide +kernel) rfl (by exact ⟨(rf_in_of q0), (rf_in_of q1)⟩) ?_
    obtain ⟨x2, hx2, hg⟩ := rf_vl_some hg
    refine rf_vl_top hx2 ?_
    obtain ⟨q3, hg⟩ := rf_g_some hg
    refine rf_seg C [(.lstore 4, 2), (.aload 0, 1), (.iload 1, 1), (.iload 6, 2), (.iadd, 1), (.lload 4, 2), (.l2i, 1), (.iastore, 1), (.lload 4, 2), (.iconst 32, 2), (.lushr, 1)] (pc' := 55) (S' := ([(4, .long x2), (0, .ref 249), (1, .int a1), (2, .ref 249), (3, .int a3), (6, .int a6)], [.long ((Int64.toUInt64 x2 >>> ((Int32.toInt64 32).toUInt64 &&& Int64.toUInt64 63)).toInt64)], rf_MM w (rf_i m 249 (Int32.toNatClampNeg (a1 + a6)) (Int64.toInt32 x2)))) (by decide +kernel) rfl (rf_in_of q3) ?_
    obtain ⟨x4, hx4, hg⟩ := rf_vl_some hg
    refine rf_vl_top hx4 ?_
    refine rf_seg C [(.lstore 4, 2), (.iinc 6 1, 3)] (pc' := 60) (S' := ([(6, .int (a6 + 1)), (4, .long x4), (0, .ref 249), (1, .int a1), (2, .ref 249), (3, .int a3)], [], rf_MM w (rf_i m 249 (Int32.toNatClampNeg (a1 + a6)) (Int64.toInt32 x2)))) (by decide +kernel) rfl trivial ?_
    refine rf_goto C (-54) 6 (by decide +kernel) ?_
    refine rf_few [2, 3, 4, 5, 1, 0] rfl ?_
    exact hr6 a1 a3 x4 (a6 + 1) (rf_i m 249 (Int32.toNatClampNeg (a1 + a6)) (Int64.toInt32 x2)) hg
theorem s_X14_adds__249_249_6 {w : rf_w} {K : rf_K} {r : rf_m} (C : rf_Ctx 14 cX14_adds 7 1 (rf_sh w) K) (hE : rf_End none K (rf_sh w) 0 0 none (rf_MM w r)) (n : Nat) : ∀ (a1 : Int32) (a3 : Int32) (a4 : Int64) (a6 : Int32) (m : rf_m), g_X14_adds__249_249_6 w n a1 a3 a4 a6 m = some r → rf_V 7 (rf_sh w) K 0 0 6 ([(0, .ref 249), (1, .int a1), (2, .ref 249), (3, .int a3), (4, .long a4), (6, .int a6)], [], rf_MM w m) := by
  induction n with
  | zero => intro a1 a3 a4 a6 m hg; cases hg
  | succ n ih => intro a1 a3 a4 a6 m hg; exact s_X14_adds__249_249_6_b C hE ih a1 a3 a4 a6 m hg
theorem c_X14_adds__249_249 {w : rf_w} {m : rf_m} {a1 : Int32} {a3 : Int32} {r : rf_m} (hg : g_X14_adds__249_249 w m a1 a3 = some r) : rf_Con j_X14_adds__249_249 1 (rf_sh w) [.ref 249, .int a1, .ref 249, .int a3] (rf_MM w m) none (rf_MM w r) := by
  refine rf_con j_X14_adds__249_249 1 ⟨by decide +kernel, rfl, Nat.le_of_ble_eq_true rfl⟩ (fun K C hE => ?_)
  unfold g_X14_adds__249_249 at hg
  show rf_V 7 (rf_sh w) K 0 0 0 ([(0, .ref 249), (1, .int a1), (2, .ref 249), (3, .int a3)], [], rf_MM w m)
  refine rf_seg C [(.goto_w 0, 1), (.lstore 4, 2), (.iconst 0, 1), (.istore 6, 2)] (pc' := 6) (S' := ([(6, .int 0), (4, .long 0), (0, .ref 249), (1, .int a1), (2, .ref 249), (3, .int a3)], [], rf_MM w m)) (by decide +kernel) rfl trivial ?_
  refine rf_few [2, 3, 4, 5, 1, 0] rfl ?_
  exact s_X14_adds__249_249_6 C hE rf_fuel a1 a3 0 0 m hg
-- X14_isNoLess__250_253
abbrev j_X14_isNoLess__250_253 : rf_J := (14, yX14_isNoLess, cX14_isNoLess, 9, (some .boolean))
theorem mw_X14_isNoLess__250_253 : rf_ms j_X14_isNoLess__250_253 4 := ⟨⟨rf_mem 72 (by decide +kernel), rf_mem 0 (by decide +kernel), rf_mem 72 (by decide +kernel)⟩, by decide +kernel, by decide⟩
def g_X14_isNoLess__250_253_3_b (w : rf_w) (rec3 : Int32 → Int32 → Int32 → rf_m → Option (Int32 × rf_m)) (a1 : Int32) (a3 : Int32) (a4 : Int32) (m : rf_m) : Option (Int32 × rf_m) := (if a4 < 0 then some (1, m) else rf_g (rf_in (a1 + a4) 6) (rf_vl ((Int32.toInt64 (m.1 250 (Int32.toNatClampNeg (a1 + a4)))) &&& 4294967295) fun x1 => rf_g (rf_in (a3 + a4) 6) (rf_vl ((Int32.toInt64 (m.1 253 (Int32.toNatClampNeg (a3 + a4)))) &&& 4294967295) fun x3 => (if (lg_cmp x1 x3) = 0 then rec3 a1 a3 (a4 + (-1)) m else (if (lg_cmp x1 x3) ≤ 0 then some (0, m) else some (1, m))))))
def g_X14_isNoLess__250_253_3 (w : rf_w) : Nat → Int32 → Int32 → Int32 → rf_m → Option (Int32 × rf_m)
  | 0, _, _, _, _ => none
  | n + 1, a1, a3, a4, m => g_X14_isNoLess__250_253_3_b w (g_X14_isNoLess__250_253_3 w n) a1 a3 a4 m
def g_X14_isNoLess__250_253 (w : rf_w) (m : rf_m) (a1 : Int32) (a3 : Int32) : Option (Int32 × rf_m) := g_X14_isNoLess__250_253_3 w rf_fuel a1 a3 5 m
theorem s_X14_isNoLess__250_253_3_b {w : rf_w} {K : rf_K} {r : Int32 × rf_m} (C : rf_Ctx 14 cX14_isNoLess 9 1 (rf_sh w) K) (hE : rf_End (some .boolean) K (rf_sh w) 0 0 (some (.int r.1)) (rf_MM w r.2)) {rec3 : Int32 → Int32 → Int32 → rf_m → Option (Int32 × rf_m)} (hr3 : ∀ (a1 : Int32) (a3 : Int32) (a4 : Int32) (m : rf_m), rec3 a1 a3 a4 m = some r → rf_V 9 (rf_sh w) K 0 0 3 ([(0, .ref 250), (1, .int a1), (2, .ref 253), (3, .int a3), (4, .int a4)], [], rf_MM w m)) (a1 : Int32) (a3 : Int32) (a4 : Int32) (m : rf_m) (hg : g_X14_isNoLess__250_253_3_b w rec3 a1 a3 a4 m = some r) : rf_V 9 (rf_sh w) K 0 0 3 ([(0, .ref 250), (1, .int a1), (2, .ref 253), (3, .int a3), (4, .int a4)], [], rf_MM w m) := by
  unfold g_X14_isNoLess__250_253_3_b at hg
  refine rf_seg C [(.iload 4, 2)] (pc' := 5) (S' := ([(0, .ref 250), (1, .int a1), (2, .ref 253), (3, .int a3), (4, .int a4)], [.int a4], rf_MM w m)) (by decide +kernel) rfl trivial ?_
  refine rf_if_lt C 57 62 (by decide +kernel) (fun hc => ?_) (fun hc => ?_)
  · replace hg := (if_pos hc).symm.trans hg
    refine rf_seg C [(.iconst 1, 1)] (pc' := 63) (S' := ([(0, .ref 250), (1, .int a1), (2, .ref 253), (3, .int a3), (4, .int a4)], [.int 1], rf_MM w m)) (by decide +kernel) rfl trivial ?_
    obtain rfl := Option.some.inj hg
    exact rf_zret C hE (by decide) (by decide +kernel)
  · replace hg := (if_neg hc).symm.trans hg
    obtain ⟨q0, hg⟩ := rf_g_some hg
    refine rf_seg C [(.aload 0, 1), (.iload 1, 1), (.iload 4, 2), (.iadd, 1), (.iaload, 1), (.i2l, 1), (.goto_w 4294967295, 3), (.land, 1)] (pc' := 19) (S' := ([(0, .ref 250), (1, .int a1), (2, .ref 253), (3, .int a3), (4, .int a4)], [.long ((Int32.toInt64 (m.1 250 (Int32.toNatClampNeg (a1 + a4)))) &&& 4294967295)], rf_MM w m)) (by decide +kernel) rfl (rf_in_of q0) ?_
    obtain ⟨x1, hx1, hg⟩ := rf_vl_some hg
    refine rf_vl_top hx1 ?_
    obtain ⟨q2, hg⟩ := rf_g_some hg
    refine rf_seg C [(.lstore 5, 2), (.aload 2, 1), (.iload 3, 1), (.iload 4, 2), (.iadd, 1), (.iaload, 1), (.i2l, 1), (.goto_w 4294967295, 3), (.land, 1)] (pc' := 32) (S' := ([(5, .long x1), (0, .ref 250), (1, .int a1), (2, .ref 253), (3, .int a3), (4, .int a4)], [.long ((Int32.toInt64 (m.1 253 (Int32.toNatClampNeg (a3 + a4)))) &&& 4294967295)], rf_MM w m)) (by decide +kernel) rfl (rf_in_of q2) ?_
    obtain ⟨x3, hx3, hg⟩ := rf_vl_some hg
    refine rf_vl_top hx3 ?_
    refine rf_seg C [(.lstore 7, 2), (.lload 5, 2), (.lload 7, 2), (.lcmp, 1)] (pc' := 39) (S' := ([(7, .long x3), (5, .long x1), (0, .ref 250), (1, .int a1), (2, .ref 253), (3, .int a3), (4, .int a4)], [.int (lg_cmp x1 x3)], rf_MM w m)) (by decide +kernel) rfl trivial ?_
    refine rf_if_eq C 17 56 (by decide +kernel) (fun hc => ?_) (fun hc => ?_)
    · replace hg := (if_pos hc).symm.trans hg
      refine rf_seg C [(.iinc 4 (-1), 3)] (pc' := 59) (S' := ([(4, .int (a4 + (-1))), (7, .long x3), (5, .long x1), (0, .ref 250), (1, .int a1), (2, .ref 253), (3, .int a3)], [], rf_MM w m)) (by decide +kernel) rfl trivial ?_
      refine rf_goto C (-56) 3 (by decide +kernel) ?_
      refine rf_few [3, 4, 5, 6, 0] rfl ?_
      exact hr3 a1 a3 (a4 + (-1)) m hg
    · replace hg := (if_neg hc).symm.trans hg
      refine rf_seg C [(.lload 5, 2), (.lload 7, 2), (.lcmp, 1)] (pc' := 47) (S' := ([(7, .long x3), (5, .long x1), (0, .ref 250), (1, .int a1), (2, .ref 253), (3, .int a3), (4, .int a4)], [.int (lg_cmp x1 x3)], rf_MM w m)) (by decide +kernel) rfl trivial ?_
      refine rf_if_le C 7 54 (by decide +kernel) (fun hc => ?_) (fun hc => ?_)
      · replace hg := (if_pos hc).symm.trans hg
        refine rf_seg C [(.iconst 0, 1)] (pc' := 55) (S' := ([(7, .long x3), (5, .long x1), (0, .ref 250), (1, .int a1), (2, .ref 253), (3, .int a3), (4, .int a4)], [.int 0], rf_MM w m)) (by decide +kernel) rfl trivial ?_
        obtain rfl := Option.some.inj hg
        exact rf_zret C hE (by decide) (by decide +kernel)
      · replace hg := (if_neg hc).symm.trans hg
        refine rf_seg C [(.iconst 1, 1)] (pc' := 51) (S' := ([(7, .long x3), (5, .long x1), (0, .ref 250), (1, .int a1), (2, .ref 253), (3, .int a3), (4, .int a4)], [.int 1], rf_MM w m)) (by decide +kernel) rfl trivial ?_
        refine rf_goto C 4 55 (by decide +kernel) ?_
        obtain rfl := Option.some.inj hg
        exact rf_zret C hE (by decide) (by decide +kernel)
theorem s_X14_isNoLess__250_253_3 {w : rf_w} {K : rf_K} {r : Int32 × rf_m} (C : rf_Ctx 14 cX14_isNoLess 9 1 (rf_sh w) K) (hE : rf_End (some .boolean) K (rf_sh w) 0 0 (some (.int r.1)) (rf_MM w r.2)) (n : Nat) : ∀ (a1 : Int32) (a3 : Int32) (a4 : Int32) (m : rf_m), g_X14_isNoLess__250_253_3 w n a1 a3 a4 m = some r → rf_V 9 (rf_sh w) K 0 0 3 ([(0, .ref 250), (1, .int a1), (2, .ref 253), (3, .int a3), (4, .int a4)], [], rf_MM w m) := by
  induction n with
  | zero => intro a1 a3 a4 m hg; cases hg
  | succ n ih => intro a1 a3 a4 m hg; exact s_X14_isNoLess__250_253_3_b C hE ih a1 a3 a4 m hg
theorem c_X14_isNoLess__250_253 {w : rf_w} {m : rf_m} {a1 : Int32} {a3 : Int32} {r : Int32 × rf_m} (hg : g_X14_isNoLess__250_253 w m a1 a3 = some r) : rf_Con j_X14_isNoLess__250_253 1 (rf_sh w) [.ref 250, .int a1, .ref 253, .int a3] (rf_MM w m) (some (.int r.1)) (rf_MM w r.2) := by
  refine rf_con j_X14_isNoLess__250_253 1 ⟨by decide +kernel, rfl, Nat.le_of_ble_eq_true rfl⟩ (fun K C hE => ?_)
  unfold g_X14_isNoLess__250_253 at hg
  show rf_V 9 (rf_sh w) K 0 0 0 ([(0, .ref 250), (1, .int a1), (2, .ref 253), (3, .int a3)], [], rf_MM w m)
  refine rf_seg C [(.iconst 5, 1), (.istore 4, 2)] (pc' := 3) (S' := ([(4, .int 5), (0, .ref 250), (1, .int a1), (2, .ref 253), (3, .int a3)], [], rf_MM w m)) (by decide +kernel) rfl trivial ?_
  refine rf_few [1, 2, 3, 4, 0] rfl ?_
  exact s_X14_isNoLess__250_253_3 C hE rf_fuel a1 a3 5 m hg
-- X14_adds__250_251
abbrev j_X14_adds__250_251 : rf_J := (14, yX14_adds, cX14_adds, 7, none)
theorem mw_X14_adds__250_251 : rf_ms j_X14_adds__250_251 4 := ⟨⟨rf_mem 71 (by decide +kernel), rf_mem 0 (by decide +kernel), rf_mem 71 (by decide +kernel)⟩, by decide +kernel, by decide⟩
def g_X14_adds__250_251_6_b (w : rf_w) (rec6 : Int32 → Int32 → Int64 → Int32 → rf_m → Option (rf_m)) (a1 : Int32) (a3 : Int32) (a4 : Int64) (a6 : Int32) (m : rf_m) : Option (rf_m) := (if 6 ≤ a6 then some m else rf_g (rf_in (a1 + a6) 6) (rf_g (rf_in (a3 + a6) 6) (rf_vl (a4 + (((Int32.toInt64 (m.1 250 (Int32.toNatClampNeg (a1 + a6)))) &&& 4294967295) + ((Int32.toInt64 (m.1 251 (Int32.toNatClampNeg (a3 + a6)))) &&& 4294967295))) fun x2 => rf_g (rf_in (a1 + a6) 6) (rf_vl ((Int64.toUInt64 x2 >>> ((Int32.toInt64 32).toUInt64 &&& Int64.toUInt64 63)).toInt64) fun x4 => rec6 a1 a3 x4 (a6 + 1) (rf_i m 250 (Int32.toNatClampNeg (a1 + a6)) (Int64.toInt32 x2))))))
def g_X14_adds__250_251_6 (w : rf_w) : Nat → Int32 → Int32 → Int64 → Int32 → rf_m → Option (rf_m)
  | 0, _, _, _, _, _ => none
  | n + 1, a1, a3, a4, a6, m => g_X14_adds__250_251_6_b w (g_X14_adds__250_251_6 w n) a1 a3 a4 a6 m
def g_X14_adds__250_251 (w : rf_w) (m : rf_m) (a1 : Int32) (a3 : Int32) : Option (rf_m) := g_X14_adds__250_251_6 w rf_fuel a1 a3 0 0 m
theorem s_X14_adds__250_251_6_b {w : rf_w} {K : rf_K} {r : rf_m} (C : rf_Ctx 14 cX14_adds 7 1 (rf_sh w) K) (hE : rf_End none K (rf_sh w) 0 0 none (rf_MM w r)) {rec6 : Int32 → Int32 → Int64 → Int32 → rf_m → Option (rf_m)} (hr6 : ∀ (a1 : Int32) (a3 : Int32) (a4 : Int64) (a6 : Int32) (m : rf_m), rec6 a1 a3 a4 a6 m = some r → rf_V 7 (rf_sh w) K 0 0 6 ([(0, .ref 250), (1, .int a1), (2, .ref 251), (3, .int a3), (4, .long a4), (6, .int a6)], [], rf_MM w m)) (a1 : Int32) (a3 : Int32) (a4 : Int64) (a6 : Int32) (m : rf_m) (hg : g_X14_adds__250_251_6_b w rec6 a1 a3 a4 a6 m = some r) : rf_V 7 (rf_sh w) K 0 0 6 ([(0, .ref 250), (1, .int a1), (2, .ref 251), (3, .int a3), (4, .long a4), (6, .int a6)], [], rf_MM w m) := by
  unfold g_X14_adds__250_251_6_b at hg
  refine rf_seg C [(.iload 6, 2), (.iconst 6, 2)] (pc' := 10) (S' := ([(0, .ref 250), (1, .int a1), (2, .ref 251), (3, .int a3), (4, .long a4), (6, .int a6)], [.int 6, .int a6], rf_MM w m)) (by decide +kernel) rfl trivial ?_
  refine rf_icmp_ge C 53 63 (by decide +kernel) (fun hc => ?_) (fun hc => ?_)
  · replace hg := (if_pos hc).symm.trans hg
    obtain rfl := Option.some.inj hg
    exact rf_vret C hE (by decide +kernel)
  · replace hg := (if_neg hc).symm.trans hg
    obtain ⟨q0, hg⟩ := rf_g_some hg
    obtain ⟨q1, hg⟩ := rf_g_some hg
    refine rf_seg C [(.lload 4, 2), (.aload 0, 1), (.iload 1, 1), (.iload 6, 2), (.iadd, 1), (.iaload, 1), (.i2l, 1), (.goto_w 4294967295, 3), (.land, 1), (.aload 2, 1), (.iload 3, 1), (.iload 6, 2), (.iadd, 1), (.iaload, 1), (.i2l, 1), (.goto_w 4294967295, 3), (.land, 1), (.ladd, 1), (.ladd, 1)] (pc' := 39) (S' := ([(0, .ref 250), (1, .int a1), (2, .ref 251), (3, .int a3), (4, .long a4), (6, .int a6)], [.long (a4 + (((Int32.toInt64 (m.1 250 (Int32.toNatClampNeg (a1 + a6)))) &&& 4294967295) + ((Int32.toInt64 (m.1 251 (Int32.toNatClampNeg (a3 + a6)))) &&& 4294967295)))], rf_MM w m)) (by decide +kernel) rfl (by exact ⟨(rf_in_of q0), (rf_in_of q1)⟩) ?_
    obtain ⟨x2, hx2, hg⟩ := rf_vl_some hg
    refine rf_vl_top hx2 ?_
    obtain ⟨q3, hg⟩ := rf_g_some hg
    refine rf_seg C [(.lstore 4, 2), (.aload 0, 1), (.iload 1, 1), (.iload 6, 2), (.iadd, 1), (.lload 4, 2), (.l2i, 1), (.iastore, 1), (.lload 4, 2), (.iconst 32, 2), (.lushr, 1)] (pc' := 55) (S' := ([(4, .long x2), (0, .ref 250), (1, .int a1), (2, .ref 251), (3, .int a3), (6, .int a6)], [.long ((Int64.toUInt64 x2 >>> ((Int32.toInt64 32).toUInt64 &&& Int64.toUInt64 63)).toInt64)], rf_MM w (rf_i m 250 (Int32.toNatClampNeg (a1 + a6)) (Int64.toInt32 x2)))) (by decide +kernel) rfl (rf_in_of q3) ?_
    obtain ⟨x4, hx4, hg⟩ := rf_vl_some hg
    refine rf_vl_top hx4 ?_
    refine rf_seg C [(.lstore 4, 2), (.iinc 6 1, 3)] (pc' := 60) (S' := ([(6, .int (a6 + 1)), (4, .long x4), (0, .ref 250), (1, .int a1), (2, .ref 251), (3, .int a3)], [], rf_MM w (rf_i m 250 (Int32.toNatClampNeg (a1 + a6)) (Int64.toInt32 x2)))) (by decide +kernel) rfl trivial ?_
    refine rf_goto C (-54) 6 (by decide +kernel) ?_
    refine rf_few [2, 3, 4, 5, 1, 0] rfl ?_
    exact hr6 a1 a3 x4 (a6 + 1) (rf_i m 250 (Int32.toNatClampNeg (a1 + a6)) (Int64.toInt32 x2)) hg
theorem s_X14_adds__250_251_6 {w : rf_w} {K : rf_K} {r : rf_m} (C : rf_Ctx 14 cX14_adds 7 1 (rf_sh w) K) (hE : rf_End none K (rf_sh w) 0 0 none (rf_MM w r)) (n : Nat) : ∀ (a1 : Int32) (a3 : Int32) (a4 : Int64) (a6 : Int32) (m : rf_m), g_X14_adds__250_251_6 w n a1 a3 a4 a6 m = some r → rf_V 7 (rf_sh w) K 0 0 6 ([(0, .ref 250), (1, .int a1), (2, .ref 251), (3, .int a3), (4, .long a4), (6, .int a6)], [], rf_MM w m) := by
  induction n with
  | zero => intro a1 a3 a4 a6 m hg; cases hg
  | succ n ih => intro a1 a3 a4 a6 m hg; exact s_X14_adds__250_251_6_b C hE ih a1 a3 a4 a6 m hg
theorem c_X14_adds__250_251 {w : rf_w} {m : rf_m} {a1 : Int32} {a3 : Int32} {r : rf_m} (hg : g_X14_adds__250_251 w m a1 a3 = some r) : rf_Con j_X14_adds__250_251 1 (rf_sh w) [.ref 250, .int a1, .ref 251, .int a3] (rf_MM w m) none (rf_MM w r) := by
  refine rf_con j_X14_adds__250_251 1 ⟨by decide +kernel, rfl, Nat.le_of_ble_eq_true rfl⟩ (fun K C hE => ?_)
  unfold g_X14_adds__250_251 at hg
  show rf_V 7 (rf_sh w) K 0 0 0 ([(0, .ref 250), (1, .int a1), (2, .ref 251), (3, .int a3)], [], rf_MM w m)
  refine rf_seg C [(.goto_w 0, 1), (.lstore 4, 2), (.iconst 0, 1), (.istore 6, 2)] (pc' := 6) (S' := ([(6, .int 0), (4, .long 0), (0, .ref 250), (1, .int a1), (2, .ref 251), (3, .int a3)], [], rf_MM w m)) (by decide +kernel) rfl trivial ?_
  refine rf_few [2, 3, 4, 5, 1, 0] rfl ?_
  exact s_X14_adds__250_251_6 C hE rf_fuel a1 a3 0 0 m hg
-- X14_set__249
abbrev j_X14_set__249 : rf_J := (14, yX14_set, cX14_set, 5, none)
theorem mw_X14_set__249 : rf_ms j_X14_set__249 3 := ⟨⟨rf_mem 71 (by decide +kernel), rf_mem 0 (by decide +kernel), rf_mem 71 (by decide +kernel)⟩, by decide +kernel, by decide⟩
def g_X14_set__249_50 (w : rf_w) (rec3 : Int32 → Int64 → Int32 → rf_m → Option (rf_m)) (a1 : Int32) (a2 : Int64) (a4 : Int32) (s1 : Int32) (s2 : Int32) (m : rf_m) : Option (rf_m) := rf_g (rf_in s1 6) (rec3 a1 a2 (a4 + 1) (rf_i m 249 (Int32.toNatClampNeg s1) s2))
def g_X14_set__249_3_b (w : rf_w) (rec3 : Int32 → Int64 → Int32 → rf_m → Option (rf_m)) (a1 : Int32) (a2 : Int64) (a4 : Int32) (m : rf_m) : Option (rf_m) := (if 6 ≤ a4 then some m else (if a4 = 0 then g_X14_set__249_50 w rec3 a1 a2 a4 (a1 + a4) (Int64.toInt32 a2) m else (if a4 = 1 then g_X14_set__249_50 w rec3 a1 a2 a4 (a1 + a4) (Int64.toInt32 (a2 >>> (Int32.toInt64 32 &&& 63))) m else (if (0 : Int32) ≤ (lg_cmp a2 0) then g_X14_set__249_50 w rec3 a1 a2 a4 (a1 + a4) 0 m else g_X14_set__249_50 w rec3 a1 a2 a4 (a1 + a4) ((-1)) m))))
def g_X14_set__249_3 (w : rf_w) : Nat → Int32 → Int64 → Int32 → rf_m → Option (rf_m)
  | 0, _, _, _, _ => none
  | n + 1, a1, a2, a4, m => g_X14_set__249_3_b w (g_X14_set__249_3 w n) a1 a2 a4 m
def g_X14_set__249 (w : rf_w) (m : rf_m) (a1 : Int32) (a2 : Int64) : Option (rf_m) := g_X14_set__249_3 w rf_fuel a1 a2 0 m
theorem s_X14_set__249_50 {w : rf_w} {K : rf_K} {r : rf_m} (C : rf_Ctx 14 cX14_set 5 1 (rf_sh w) K) (hE : rf_End none K (rf_sh w) 0 0 none (rf_MM w r)) {rec3 : Int32 → Int64 → Int32 → rf_m → Option (rf_m)} (hr3 : ∀ (a1 : Int32) (a2 : Int64) (a4 : Int32) (m : rf_m), rec3 a1 a2 a4 m = some r → rf_V 5 (rf_sh w) K 0 0 3 ([(0, .ref 249), (1, .int a1), (2, .long a2), (4, .int a4)], [], rf_MM w m)) (a1 : Int32) (a2 : Int64) (a4 : Int32) (s1 : Int32) (s2 : Int32) (m : rf_m) (hg : g_X14_set__249_50 w rec3 a1 a2 a4 s1 s2 m = some r) : rf_V 5 (rf_sh w) K 0 0 50 ([(0, .ref 249), (1, .int a1), (2, .long a2), (4, .int a4)], [.int s2, .int s1, .ref 249], rf_MM w m) := by
  unfold g_X14_set__249_50 at hg
  obtain ⟨q0, hg⟩ := rf_g_some hg
  refine rf_seg C [(.iastore, 1), (.iinc 4 1, 3)] (pc' := 54) (S' := ([(4, .int (a4 + 1)), (0, .ref 249), (1, .int a1), (2, .long a2)], [], rf_MM w (rf_i m 249 (Int32.toNatClampNeg s1) s2))) (by decide +kernel) rfl (rf_in_of q0) ?_
  refine rf_goto C (-51) 3 (by decide +kernel) ?_
  refine rf_few [1, 2, 3, 0] rfl ?_
  exact hr3 a1 a2 (a4 + 1) (rf_i m 249 (Int32.toNatClampNeg s1) s2) hg
theorem s_X14_set__249_3_b {w : rf_w} {K : rf_K} {r : rf_m} (C : rf_Ctx 14 cX14_set 5 1 (rf_sh w) K) (hE : rf_End none K (rf_sh w) 0 0 none (rf_MM w r)) {rec3 : Int32 → Int64 → Int32 → rf_m → Option (rf_m)} (hr3 : ∀ (a1 : Int32) (a2 : Int64) (a4 : Int32) (m : rf_m), rec3 a1 a2 a4 m = some r → rf_V 5 (rf_sh w) K 0 0 3 ([(0, .ref 249), (1, .int a1), (2, .long a2), (4, .int a4)], [], rf_MM w m)) (a1 : Int32) (a2 : Int64) (a4 : Int32) (m : rf_m) (hg : g_X14_set__249_3_b w rec3 a1 a2 a4 m = some r) : rf_V 5 (rf_sh w) K 0 0 3 ([(0, .ref 249), (1, .int a1), (2, .long a2), (4, .int a4)], [], rf_MM w m) := by
  unfold g_X14_set__249_3_b at hg
  refine rf_seg C [(.iload 4, 2), (.iconst 6, 2)] (pc' := 7) (S' := ([(0, .ref 249), (1, .int a1), (2, .long a2), (4, .int a4)], [.int 6, .int a4], rf_MM w m)) (by decide +kernel) rfl trivial ?_
  refine rf_icmp_ge C 50 57 (by decide +kernel) (fun hc => ?_) (fun hc => ?_)
  · replace hg := (if_pos hc).symm.trans hg
    obtain rfl := Option.some.inj hg
    exact rf_vret C hE (by decide +kernel)
  · replace hg := (if_neg hc).symm.trans hg
    refine rf_seg C [(.aload 0, 1), (.iload 1, 1), (.iload 4, 2), (.iadd, 1), (.iload 4, 2)] (pc' := 17) (S' := ([(0, .ref 249), (1, .int a1), (2, .long a2), (4, .int a4)], [.int a4, .int (a1 + a4), .ref 249], rf_MM w m)) (by decide +kernel) rfl trivial ?_
    refine rf_if_ne C 8 25 (by decide +kernel) (fun hc => ?_) (fun hc => ?_)
    · replace hg := (if_neg hc).symm.trans hg
      refine rf_seg C [(.iload 4, 2), (.iconst 1, 1)] (pc' := 28) (S' := ([(0, .ref 249), (1, .int a1), (2, .long a2), (4, .int a4)], [.int 1, .int a4, .int (a1 + a4), .ref 249], rf_MM w m)) (by decide +kernel) rfl trivial ?_
      refine rf_icmp_ne C 11 39 (by decide +kernel) (fun hc => ?_) (fun hc => ?_)
      · replace hg := (if_neg hc).symm.trans hg
        refine rf_seg C [(.lload 2, 1), (.goto_w 0, 1), (.lcmp, 1)] (pc' := 42) (S' := ([(0, .ref 249), (1, .int a1), (2, .long a2), (4, .int a4)], [.int (lg_cmp a2 0), .int (a1 + a4), .ref 249], rf_MM w m)) (by decide +kernel) rfl trivial ?_
        refine rf_if_ge C 7 49 (by decide +kernel) (fun hc => ?_) (fun hc => ?_)
        · replace hg := (if_pos hc).symm.trans hg
          refine rf_seg C [(.iconst 0, 1)] (pc' := 50) (S' := ([(0, .ref 249), (1, .int a1), (2, .long a2), (4, .int a4)], [.int 0, .int (a1 + a4), .ref 249], rf_MM w m)) (by decide +kernel) rfl trivial ?_
          refine rf_few [0, 1, 2, 3] rfl ?_
          exact s_X14_set__249_50 C hE hr3 a1 a2 a4 (a1 + a4) 0 m hg
        · replace hg := (if_neg hc).symm.trans hg
          refine rf_seg C [(.iconst (-1), 1)] (pc' := 46) (S' := ([(0, .ref 249), (1, .int a1), (2, .long a2), (4, .int a4)], [.int ((-1)), .int (a1 + a4), .ref 249], rf_MM w m)) (by decide +kernel) rfl trivial ?_
          refine rf_goto C 4 50 (by decide +kernel) ?_
          refine rf_few [0, 1, 2, 3] rfl ?_
          exact s_X14_set__249_50 C hE hr3 a1 a2 a4 (a1 + a4) ((-1)) m hg
      · replace hg := (if_pos hc).symm.trans hg
        refine rf_seg C [(.lload 2, 1), (.iconst 32, 2), (.lshr, 1), (.l2i, 1)] (pc' := 36) (S' := ([(0, .ref 249), (1, .int a1), (2, .long a2), (4, .int a4)], [.int (Int64.toInt32 (a2 >>> (Int32.toInt64 32 &&& 63))), .int (a1 + a4), .ref 249], rf_MM w m)) (by decide +kernel) rfl trivial ?_
        refine rf_goto C 14 50 (by decide +kernel) ?_
        refine rf_few [0, 1, 2, 3] rfl ?_
        exact s_X14_set__249_50 C hE hr3 a1 a2 a4 (a1 + a4) (Int64.toInt32 (a2 >>> (Int32.toInt64 32 &&& 63))) m hg
    · replace hg := (if_pos hc).symm.trans hg
      refine rf_seg C [(.lload 2, 1), (.l2i, 1)] (pc' := 22) (S' := ([(0, .ref 249), (1, .int a1), (2, .long a2), (4, .int a4)], [.int (Int64.toInt32 a2), .int (a1 + a4), .ref 249], rf_MM w m)) (by decide +kernel) rfl trivial ?_
      refine rf_goto C 28 50 (by decide +kernel) ?_
      refine rf_few [0, 1, 2, 3] rfl ?_
      exact s_X14_set__249_50 C hE hr3 a1 a2 a4 (a1 + a4) (Int64.toInt32 a2) m hg
theorem s_X14_set__249_3 {w : rf_w} {K : rf_K} {r : rf_m} (C : rf_Ctx 14 cX14_set 5 1 (rf_sh w) K) (hE : rf_End none K (rf_sh w) 0 0 none (rf_MM w r)) (n : Nat) : ∀ (a1 : Int32) (a2 : Int64) (a4 : Int32) (m : rf_m), g_X14_set__249_3 w n a1 a2 a4 m = some r → rf_V 5 (rf_sh w) K 0 0 3 ([(0, .ref 249), (1, .int a1), (2, .long a2), (4, .int a4)], [], rf_MM w m) := by
  induction n with
  | zero => intro a1 a2 a4 m hg; cases hg
  | succ n ih => intro a1 a2 a4 m hg; exact s_X14_set__249_3_b C hE ih a1 a2 a4 m hg
theorem c_X14_set__249 {w : rf_w} {m : rf_m} {a1 : Int32} {a2 : Int64} {r : rf_m} (hg : g_X14_set__249 w m a1 a2 = some r) : rf_Con j_X14_set__249 1 (rf_sh w) [.ref 249, .int a1, .long a2] (rf_MM w m) none (rf_MM w r) := by
  refine rf_con j_X14_set__249 1 ⟨by decide +kernel, rfl, Nat.le_of_ble_eq_true rfl⟩ (fun K C hE => ?_)
  unfold g_X14_set__249 at hg
  show rf_V 5 (rf_sh w) K 0 0 0 ([(0, .ref 249), (1, .int a1), (2, .long a2)], [], rf_MM w m)
  refine rf_seg C [(.iconst 0, 1), (.istore 4, 2)] (pc' := 3) (S' := ([(4, .int 0), (0, .ref 249), (1, .int a1), (2, .long a2)], [], rf_MM w m)) (by decide +kernel) rfl trivial ?_
  refine rf_few [1, 2, 3, 0] rfl ?_
  exact s_X14_set__249_3 C hE rf_fuel a1 a2 0 m hg
-- X14_set__250
abbrev j_X14_set__250 : rf_J := (14, yX14_set, cX14_set, 5, none)
theorem mw_X14_set__250 : rf_ms j_X14_set__250 3 := ⟨⟨rf_mem 71 (by decide +kernel), rf_mem 0 (by decide +kernel), rf_mem 71 (by decide +kernel)⟩, by decide +kernel, by decide⟩
def g_X14_set__250_50 (w : rf_w) (rec3 : Int32 → Int64 → Int32 → rf_m → Option (rf_m)) (a1 : Int32) (a2 : Int64) (a4 : Int32) (s1 : Int32) (s2 : Int32) (m : rf_m) : Option (rf_m) := rf_g (rf_in s1 6) (rec3 a1 a2 (a4 + 1) (rf_i m 250 (Int32.toNatClampNeg s1) s2))
def g_X14_set__250_3_b (w : rf_w) (rec3 : Int32 → Int64 → Int32 → rf_m → Option (rf_m)) (a1 : Int32) (a2 : Int64) (a4 : Int32) (m : rf_m) : Option (rf_m) := (if 6 ≤ a4 then some m else (if a4 = 0 then g_X14_set__250_50 w rec3 a1 a2 a4 (a1 + a4) (Int64.toInt32 a2) m else (if a4 = 1 then g_X14_set__250_50 w rec3 a1 a2 a4 (a1 + a4) (Int64.toInt32 (a2 >>> (Int32.toInt64 32 &&& 63))) m else (if (0 : Int32) ≤ (lg_cmp a2 0) then g_X14_set__250_50 w rec3 a1 a2 a4 (a1 + a4) 0 m else g_X14_set__250_50 w rec3 a1 a2 a4 (a1 + a4) ((-1)) m))))
def g_X14_set__250_3 (w : rf_w) : Nat → Int32 → Int64 → Int32 → rf_m → Option (rf_m)
  | 0, _, _, _, _ => none
  | n + 1, a1, a2, a4, m => g_X14_set__250_3_b w (g_X14_set__250_3 w n) a1 a2 a4 m
def g_X14_set__250 (w : rf_w) (m : rf_m) (a1 : Int32) (a2 : Int64) : Option (rf_m) := g_X14_set__250_3 w rf_fuel a1 a2 0 m
theorem s_X14_set__250_50 {w : rf_w} {K : rf_K} {r : rf_m} (C : rf_Ctx 14 cX14_set 5 1 (rf_sh w) K) (hE : rf_End none K (rf_sh w) 0 0 none (rf_MM w r)) {rec3 : Int32 → Int64 → Int32 → rf_m → Option (rf_m)} (hr3 : ∀ (a1 : Int32) (a2 : Int64) (a4 : Int32) (m : rf_m), rec3 a1 a2 a4 m = some r → rf_V 5 (rf_sh w) K 0 0 3 ([(0, .ref 250), (1, .int a1), (2, .long a2), (4, .int a4)], [], rf_MM w m)) (a1 : Int32) (a2 : Int64) (a4 : Int32) (s1 : Int32) (s2 : Int32) (m : rf_m) (hg : g_X14_set__250_50 w rec3 a1 a2 a4 s1 s2 m = some r) : rf_V 5 (rf_sh w) K 0 0 50 ([(0, .ref 250), (1, .int a1), (2, .long a2), (4, .int a4)], [.int s2, .int s1, .ref 250], rf_MM w m) := by
  unfold g_X14_set__250_50 at hg
  obtain ⟨q0, hg⟩ := rf_g_some hg
  refine rf_seg C [(.iastore, 1), (.iinc 4 1, 3)] (pc' := 54) (S' := ([(4, .int (a4 + 1)), (0, .ref 250), (1, .int a1), (2, .long a2)], [], rf_MM w (rf_i m 250 (Int32.toNatClampNeg s1) s2))) (by decide +kernel) rfl (rf_in_of q0) ?_
  refine rf_goto C (-51) 3 (by decide +kernel) ?_
  refine rf_few [1, 2, 3, 0] rfl ?_
  exact hr3 a1 a2 (a4 + 1) (rf_i m 250 (Int32.toNatClampNeg s1) s2) hg
theorem s_X14_set__250_3_b {w : rf_w} {K : rf_K} {r : rf_m} (C : rf_Ctx 14 cX14_set 5 1 (rf_sh w) K) (hE : rf_End none K (rf_sh w) 0 0 none (rf_MM w r)) {rec3 : Int32 → Int64 → Int32 → rf_m → Option (rf_m)} (hr3 : ∀ (a1 : Int32) (a2 : Int64) (a4 : Int32) (m : rf_m), rec3 a1 a2 a4 m = some r → rf_V 5 (rf_sh w) K 0 0 3 ([(0, .ref 250), (1, .int a1), (2, .long a2), (4, .int a4)], [], rf_MM w m)) (a1 : Int32) (a2 : Int64) (a4 : Int32) (m : rf_m) (hg : g_X14_set__250_3_b w rec3 a1 a2 a4 m = some r) : rf_V 5 (rf_sh w) K 0 0 3 ([(0, .ref 250), (1, .int a1), (2, .long a2), (4, .int a4)], [], rf_MM w m) := by
  unfold g_X14_set__250_3_b at hg
  refine rf_seg C [(.iload 4, 2), (.iconst 6, 2)] (pc' := 7) (S' := ([(0, .ref 250), (1, .int a1), (2, .long a2), (4, .int a4)], [.int 6, .int a4], rf_MM w m)) (by decide +kernel) rfl trivial ?_
  refine rf_icmp_ge C 50 57 (by decide +kernel) (fun hc => ?_) (fun hc => ?_)
  · replace hg := (if_pos hc).symm.trans hg
    obtain rfl := Option.some.inj hg
    exact rf_vret C hE (by decide +kernel)
  · replace hg := (if_neg hc).symm.trans hg
    refine rf_seg C [(.aload 0, 1), (.iload 1, 1), (.iload 4, 2), (.iadd, 1), (.iload 4, 2)] (pc' := 17) (S' := ([(0, .ref 250), (1, .int a1), (2, .long a2), (4, .int a4)], [.int a4, .int (a1 + a4), .ref 250], rf_MM w m)) (by decide +kernel) rfl trivial ?_
    refine rf_if_ne C 8 25 (by decide +kernel) (fun hc => ?_) (fun hc => ?_)
    · replace hg := (if_neg hc).symm.trans hg
      refine rf_seg C [(.iload 4, 2), (.iconst 1, 1)] (pc' := 28) (S' := ([(0, .ref 250), (1, .int a1), (2, .long a2), (4, .int a4)], [.int 1, .int a4, .int (a1 + a4), .ref 250], rf_MM w m)) (by decide +kernel) rfl trivial ?_
      refine rf_icmp_ne C 11 39 (by decide +kernel) (fun hc => ?_) (fun hc => ?_)
      · replace hg := (if_neg hc).symm.trans hg
        refine rf_seg C [(.lload 2, 1), (.goto_w 0, 1), (.lcmp, 1)] (pc' := 42) (S' := ([(0, .ref 250), (1, .int a1), (2, .long a2), (4, .int a4)], [.int (lg_cmp a2 0), .int (a1 + a4), .ref 250], rf_MM w m)) (by decide +kernel) rfl trivial ?_
        refine rf_if_ge C 7 49 (by decide +kernel) (fun hc => ?_) (fun hc => ?_)
        · replace hg := (if_pos hc).symm.trans hg
          refine rf_seg C [(.iconst 0, 1)] (pc' := 50) (S' := ([(0, .ref 250), (1, .int a1), (2, .long a2), (4, .int a4)], [.int 0, .int (a1 + a4), .ref 250], rf_MM w m)) (by decide +kernel) rfl trivial ?_
          refine rf_few [0, 1, 2, 3] rfl ?_
          exact s_X14_set__250_50 C hE hr3 a1 a2 a4 (a1 + a4) 0 m hg
        · replace hg := (if_neg hc).symm.trans hg
          refine rf_seg C [(.iconst (-1), 1)] (pc' := 46) (S' := ([(0, .ref 250), (1, .int a1), (2, .long a2), (4, .int a4)], [.int ((-1)), .int (a1 + a4), .ref 250], rf_MM w m)) (by decide +kernel) rfl trivial ?_
          refine rf_goto C 4 50 (by decide +kernel) ?_
          refine rf_few [0, 1, 2, 3] rfl ?_
          exact s_X14_set__250_50 C hE hr3 a1 a2 a4 (a1 + a4) ((-1)) m hg
      · replace hg := (if_pos hc).symm.trans hg
        refine rf_seg C [(.lload 2, 1), (.iconst 32, 2), (.lshr, 1), (.l2i, 1)] (pc' := 36) (S' := ([(0, .ref 250), (1, .int a1), (2, .long a2), (4, .int a4)], [.int (Int64.toInt32 (a2 >>> (Int32.toInt64 32 &&& 63))), .int (a1 + a4), .ref 250], rf_MM w m)) (by decide +kernel) rfl trivial ?_
        refine rf_goto C 14 50 (by decide +kernel) ?_
        refine rf_few [0, 1, 2, 3] rfl ?_
        exact s_X14_set__250_50 C hE hr3 a1 a2 a4 (a1 + a4) (Int64.toInt32 (a2 >>> (Int32.toInt64 32 &&& 63))) m hg
    · replace hg := (if_pos hc).symm.trans hg
      refine rf_seg C [(.lload 2, 1), (.l2i, 1)] (pc' := 22) (S' := ([(0, .ref 250), (1, .int a1), (2, .long a2), (4, .int a4)], [.int (Int64.toInt32 a2), .int (a1 + a4), .ref 250], rf_MM w m)) (by decide +kernel) rfl trivial ?_
      refine rf_goto C 28 50 (by decide +kernel) ?_
      refine rf_few [0, 1, 2, 3] rfl ?_
      exact s_X14_set__250_50 C hE hr3 a1 a2 a4 (a1 + a4) (Int64.toInt32 a2) m hg
theorem s_X14_set__250_3 {w : rf_w} {K : rf_K} {r : rf_m} (C : rf_Ctx 14 cX14_set 5 1 (rf_sh w) K) (hE : rf_End none K (rf_sh w) 0 0 none (rf_MM w r)) (n : Nat) : ∀ (a1 : Int32) (a2 : Int64) (a4 : Int32) (m : rf_m), g_X14_set__250_3 w n a1 a2 a4 m = some r → rf_V 5 (rf_sh w) K 0 0 3 ([(0, .ref 250), (1, .int a1), (2, .long a2), (4, .int a4)], [], rf_MM w m) := by
  induction n with
  | zero => intro a1 a2 a4 m hg; cases hg
  | succ n ih => intro a1 a2 a4 m hg; exact s_X14_set__250_3_b C hE ih a1 a2 a4 m hg
theorem c_X14_set__250 {w : rf_w} {m : rf_m} {a1 : Int32} {a2 : Int64} {r : rf_m} (hg : g_X14_set__250 w m a1 a2 = some r) : rf_Con j_X14_set__250 1 (rf_sh w) [.ref 250, .int a1, .long a2] (rf_MM w m) none (rf_MM w r) := by
  refine rf_con j_X14_set__250 1 ⟨by decide +kernel, rfl, Nat.le_of_ble_eq_true rfl⟩ (fun K C hE => ?_)
  unfold g_X14_set__250 at hg
  show rf_V 5 (rf_sh w) K 0 0 0 ([(0, .ref 250), (1, .int a1), (2, .long a2)], [], rf_MM w m)
  refine rf_seg C [(.iconst 0, 1), (.istore 4, 2)] (pc' := 3) (S' := ([(4, .int 0), (0, .ref 250), (1, .int a1), (2, .long a2)], [], rf_MM w m)) (by decide +kernel) rfl trivial ?_
  refine rf_few [1, 2, 3, 0] rfl ?_
  exact s_X14_set__250_3 C hE rf_fuel a1 a2 0 m hg
-- X14_copies__251_253
abbrev j_X14_copies__251_253 : rf_J := (14, yX14_copies, cX14_copies, 5, none)
theorem mw_X14_copies__251_253 : rf_ms j_X14_copies__251_253 4 := ⟨⟨rf_mem 71 (by decide +kernel), rf_mem 0 (by decide +kernel), rf_mem 71 (by decide +kernel)⟩, by decide +kernel, by decide⟩
def g_X14_copies__251_253_3_b (w : rf_w) (rec3 : Int32 → Int32 → Int32 → rf_m → Option (rf_m)) (a1 : Int32) (a3 : Int32) (a4 : Int32) (m : rf_m) : Option (rf_m) := (if 6 ≤ a4 then some m else rf_g (rf_in (a3 + a4) 6) (rf_g (rf_in (a1 + a4) 6) (rec3 a1 a3 (a4 + 1) (rf_i m 251 (Int32.toNatClampNeg (a1 + a4)) (m.1 253 (Int32.toNatClampNeg (a3 + a4)))))))
def g_X14_copies__251_253_3 (w : rf_w) : Nat → Int32 → Int32 → Int32 → rf_m → Option (rf_m)
  | 0, _, _, _, _ => none
  | n + 1, a1, a3, a4, m => g_X14_copies__251_253_3_b w (g_X14_copies__251_253_3 w n) a1 a3 a4 m
def g_X14_copies__251_253 (w : rf_w) (m : rf_m) (a1 : Int32) (a3 : Int32) : Option (rf_m) := g_X14_copies__251_253_3 w rf_fuel a1 a3 0 m
theorem s_X14_copies__251_253_3_b {w : rf_w} {K : rf_K} {r : rf_m} (C : rf_Ctx 14 cX14_copies 5 1 (rf_sh w) K) (hE : rf_End none K (rf_sh w) 0 0 none (rf_MM w r)) {rec3 : Int32 → Int32 → Int32 → rf_m → Option (rf_m)} (hr3 : ∀ (a1 : Int32) (a3 : Int32) (a4 : Int32) (m : rf_m), rec3 a1 a3 a4 m = some r → rf_V 5 (rf_sh w) K 0 0 3 ([(0, .ref 251), (1, .int a1), (2, .ref 253), (3, .int a3), (4, .int a4)], [], rf_MM w m)) (a1 : Int32) (a3 : Int32) (a4 : Int32) (m : rf_m) (hg : g_X14_copies__251_253_3_b w rec3 a1 a3 a4 m = some r) : rf_V 5 (rf_sh w) K 0 0 3 ([(0, .ref 251), (1, .int a1), (2, .ref 253), (3, .int a3), (4, .int a4)], [], rf_MM w m) := by
  unfold g_X14_copies__251_253_3_b at hg
  refine rf_seg C [(.iload 4, 2), (.iconst 6, 2)] (pc' := 7) (S' := ([(0, .ref 251), (1, .int a1), (2, .ref 253), (3, .int a3), (4, .int a4)], [.int 6, .int a4], rf_MM w m)) (by decide +kernel) rfl trivial ?_
  refine rf_icmp_ge C 21 28 (by decide +kernel) (fun hc => ?_) (fun hc => ?_)
  · replace hg := (if_pos hc).symm.trans hg
    obtain rfl := Option.some.inj hg
    exact rf_vret C hE (by decide +kernel)
  · replace hg := (if_neg hc).symm.trans hg
    obtain ⟨q0, hg⟩ := rf_g_some hg
    obtain ⟨q1, hg⟩ := rf_g_some hg
    refine rf_seg C [(.aload 0, 1), (.iload 1, 1), (.iload 4, 2), (.iadd, 1), (.aload 2, 1), (.iload 3, 1), (.iload 4, 2), (.iadd, 1), (.iaload, 1), (.iastore, 1), (.iinc 4 1, 3)] (pc' := 25) (S' := ([(4, .int (a4 + 1)), (0, .ref 251), (1, .int a1), (2, .ref 253), (3, .int a3)], [], rf_MM w (rf_i m 251 (Int32.toNatClampNeg (a1 + a4)) (m.1 253 (Int32.toNatClampNeg (a3 + a4)))))) (by decide +kernel) rfl (by exact ⟨(rf_in_of q0), (rf_in_of q1)⟩) ?_
    refine rf_goto C (-22) 3 (by decide +kernel) ?_
    refine rf_few [1, 2, 3, 4, 0] rfl ?_
    exact hr3 a1 a3 (a4 + 1) (rf_i m 251 (Int32.toNatClampNeg (a1 + a4)) (m.1 253 (Int32.toNatClampNeg (a3 + a4)))) hg
theorem s_X14_copies__251_253_3 {w : rf_w} {K : rf_K} {r : rf_m} (C : rf_Ctx 14 cX14_copies 5 1 (rf_sh w) K) (hE : rf_End none K (rf_sh w) 0 0 none (rf_MM w r)) (n : Nat) : ∀ (a1 : Int32) (a3 : Int32) (a4 : Int32) (m : rf_m), g_X14_copies__251_253_3 w n a1 a3 a4 m = some r → rf_V 5 (rf_sh w) K 0 0 3 ([(0, .ref 251), (1, .int a1), (2, .ref 253), (3, .int a3), (4, .int a4)], [], rf_MM w m) := by
  induction n with
  | zero => intro a1 a3 a4 m hg; cases hg
  | succ n ih => intro a1 a3 a4 m hg; exact s_X14_copies__251_253_3_b C hE ih a1 a3 a4 m hg
theorem c_X14_copies__251_253 {w : rf_w} {m : rf_m} {a1 : Int32} {a3 : Int32} {r : rf_m} (hg : g_X14_copies__251_253 w m a1 a3 = some r) : rf_Con j_X14_copies__251_253 1 (rf_sh w) [.ref 251, .int a1, .ref 253, .int a3] (rf_MM w m) none (rf_MM w r) := by
  refine rf_con j_X14_copies__251_253 1 ⟨by decide +kernel, rfl, Nat.le_of_ble_eq_true rfl⟩ (fun K C hE => ?_)
  unfold g_X14_copies__251_253 at hg
  show rf_V 5 (rf_sh w) K 0 0 0 ([(0, .ref 251), (1, .int a1), (2, .ref 253), (3, .int a3)], [], rf_MM w m)
  refine rf_seg C [(.iconst 0, 1), (.istore 4, 2)] (pc' := 3) (S' := ([(4, .int 0), (0, .ref 251), (1, .int a1), (2, .ref 253), (3, .int a3)], [], rf_MM w m)) (by decide +kernel) rfl trivial ?_
  refine rf_few [1, 2, 3, 4, 0] rfl ?_
  exact s_X14_copies__251_253_3 C hE rf_fuel a1 a3 0 m hg
-- X14_turns__251
abbrev j_X14_turns__251 : rf_J := (14, yX14_turns, cX14_turns, 5, none)
theorem mw_X14_turns__251 : rf_ms j_X14_turns__251 2 := ⟨⟨rf_mem 71 (by decide +kernel), rf_mem 0 (by decide +kernel), rf_mem 71 (by decide +kernel)⟩, by decide +kernel, by decide⟩
def g_X14_turns__251_5_b (w : rf_w) (rec5 : Int32 → Int64 → Int32 → rf_m → Option (rf_m)) (a1 : Int32) (a2 : Int64) (a4 : Int32) (m : rf_m) : Option (rf_m) := (if 6 ≤ a4 then some m else rf_g (rf_in (a1 + a4) 6) (rf_vl (a2 + ((Int32.toInt64 ((m.1 251 (Int32.toNatClampNeg (a1 + a4))) ^^^ ((-1)))) &&& 4294967295)) fun x1 => rf_g (rf_in (a1 + a4) 6) (rf_vl ((Int64.toUInt64 x1 >>> ((Int32.toInt64 32).toUInt64 &&& Int64.toUInt64 63)).toInt64) fun x3 => rec5 a1 x3 (a4 + 1) (rf_i m 251 (Int32.toNatClampNeg (a1 + a4)) (Int64.toInt32 x1)))))
def g_X14_turns__251_5 (w : rf_w) : Nat → Int32 → Int64 → Int32 → rf_m → Option (rf_m)
  | 0, _, _, _, _ => none
  | n + 1, a1, a2, a4, m => g_X14_turns__251_5_b w (g_X14_turns__251_5 w n) a1 a2 a4 m
def g_X14_turns__251 (w : rf_w) (m : rf_m) (a1 : Int32) : Option (rf_m) := g_X14_turns__251_5 w rf_fuel a1 1 0 m
theorem s_X14_turns__251_5_b {w : rf_w} {K : rf_K} {r : rf_m} (C : rf_Ctx 14 cX14_turns 5 1 (rf_sh w) K) (hE : rf_End none K (rf_sh w) 0 0 none (rf_MM w r)) {rec5 : Int32 → Int64 → Int32 → rf_m → Option (rf_m)} (hr5 : ∀ (a1 : Int32) (a2 : Int64) (a4 : Int32) (m : rf_m), rec5 a1 a2 a4 m = some r → rf_V 5 (rf_sh w) K 0 0 5 ([(0, .ref 251), (1, .int a1), (2, .long a2), (4, .int a4)], [], rf_MM w m)) (a1 : Int32) (a2 : Int64) (a4 : Int32) (m : rf_m) (hg : g_X14_turns__251_5_b w rec5 a1 a2 a4 m = some r) : rf_V 5 (rf_sh w) K 0 0 5 ([(0, .ref 251), (1, .int a1), (2, .long a2), (4, .int a4)], [], rf_MM w m) := by
  unfold g_X14_turns__251_5_b at hg
  refine rf_seg C [(.iload 4, 2), (.iconst 6, 2)] (pc' := 9) (S' := ([(0, .ref 251), (1, .int a1), (2, .long a2), (4, .int a4)], [.int 6, .int a4], rf_MM w m)) (by decide +kernel) rfl trivial ?_
  refine rf_icmp_ge C 38 47 (by decide +kernel) (fun hc => ?_) (fun hc => ?_)
  · replace hg := (if_pos hc).symm.trans hg
    obtain rfl := Option.some.inj hg
    exact rf_vret C hE (by decide +kernel)
  · replace hg := (if_neg hc).symm.trans hg
    obtain ⟨q0, hg⟩ := rf_g_some hg
    refine rf_seg C [(.lload 2, 1), (.aload 0, 1), (.iload 1, 1), (.iload 4, 2), (.iadd, 1), (.iaload, 1), (.iconst (-1), 1), (.ixor, 1), (.i2l, 1), (.goto_w 4294967295, 3), (.land, 1), (.ladd, 1)] (pc' := 27) (S' := ([(0, .ref 251), (1, .int a1), (2, .long a2), (4, .int a4)], [.long (a2 + ((Int32.toInt64 ((m.1 251 (Int32.toNatClampNeg (a1 + a4))) ^^^ ((-1)))) &&& 4294967295))], rf_MM w m)) (by decide +kernel) rfl (rf_in_of q0) ?_
    obtain ⟨x1, hx1, hg⟩ := rf_vl_some hg
    refine rf_vl_top hx1 ?_
    obtain ⟨q2, hg⟩ := rf_g_some hg
    refine rf_seg C [(.lstore 2, 1), (.aload 0, 1), (.iload 1, 1), (.iload 4, 2), (.iadd, 1), (.lload 2, 1), (.l2i, 1), (.iastore, 1), (.lload 2, 1), (.iconst 32, 2), (.lushr, 1)] (pc' := 40) (S' := ([(2, .long x1), (0, .ref 251), (1, .int a1), (4, .int a4)], [.long ((Int64.toUInt64 x1 >>> ((Int32.toInt64 32).toUInt64 &&& Int64.toUInt64 63)).toInt64)], rf_MM w (rf_i m 251 (Int32.toNatClampNeg (a1 + a4)) (Int64.toInt32 x1)))) (by decide +kernel) rfl (rf_in_of q2) ?_
    obtain ⟨x3, hx3, hg⟩ := rf_vl_some hg
    refine rf_vl_top hx3 ?_
    refine rf_seg C [(.lstore 2, 1), (.iinc 4 1, 3)] (pc' := 44) (S' := ([(4, .int (a4 + 1)), (2, .long x3), (0, .ref 251), (1, .int a1)], [], rf_MM w (rf_i m 251 (Int32.toNatClampNeg (a1 + a4)) (Int64.toInt32 x1)))) (by decide +kernel) rfl trivial ?_
    refine rf_goto C (-39) 5 (by decide +kernel) ?_
    refine rf_few [2, 3, 1, 0] rfl ?_
    exact hr5 a1 x3 (a4 + 1) (rf_i m 251 (Int32.toNatClampNeg (a1 + a4)) (Int64.toInt32 x1)) hg
theorem s_X14_turns__251_5 {w : rf_w} {K : rf_K} {r : rf_m} (C : rf_Ctx 14 cX14_turns 5 1 (rf_sh w) K) (hE : rf_End none K (rf_sh w) 0 0 none (rf_MM w r)) (n : Nat) : ∀ (a1 : Int32) (a2 : Int64) (a4 : Int32) (m : rf_m), g_X14_turns__251_5 w n a1 a2 a4 m = some r → rf_V 5 (rf_sh w) K 0 0 5 ([(0, .ref 251), (1, .int a1), (2, .long a2), (4, .int a4)], [], rf_MM w m) := by
  induction n with
  | zero => intro a1 a2 a4 m hg; cases hg
  | succ n ih => intro a1 a2 a4 m hg; exact s_X14_turns__251_5_b C hE ih a1 a2 a4 m hg
theorem c_X14_turns__251 {w : rf_w} {m : rf_m} {a1 : Int32} {r : rf_m} (hg : g_X14_turns__251 w m a1 = some r) : rf_Con j_X14_turns__251 1 (rf_sh w) [.ref 251, .int a1] (rf_MM w m) none (rf_MM w r) := by
  refine rf_con j_X14_turns__251 1 ⟨by decide +kernel, rfl, Nat.le_of_ble_eq_true rfl⟩ (fun K C hE => ?_)
  unfold g_X14_turns__251 at hg
  show rf_V 5 (rf_sh w) K 0 0 0 ([(0, .ref 251), (1, .int a1)], [], rf_MM w m)
  refine rf_seg C [(.goto_w 1, 1), (.lstore 2, 1), (.iconst 0, 1), (.istore 4, 2)] (pc' := 5) (S' := ([(4, .int 0), (2, .long 1), (0, .ref 251), (1, .int a1)], [], rf_MM w m)) (by decide +kernel) rfl trivial ?_
  refine rf_few [2, 3, 1, 0] rfl ?_
  exact s_X14_turns__251_5 C hE rf_fuel a1 1 0 m hg
-- X14_divides__252_253
abbrev j_X14_divides__252_253 : rf_J := (14, yX14_divides, cX14_divides, 6, none)
theorem mw_X14_divides__252_253 : rf_mv j_X14_divides__252_253 (rf_R 14) 4 := ⟨⟨rf_mem 72 (by decide +kernel), rf_mem 72 (by decide +kernel), rf_mem 0 (by decide +kernel), rf_mem 72 (by decide +kernel)⟩, by decide +kernel, by decide⟩
def g_X14_divides__252_253_139 (w : rf_w) (rec42 : Int32 → Int32 → Int32 → rf_m → Option (rf_m)) (a2 : Int32) (a4 : Int32) (a5 : Int32) (m : rf_m) : Option (rf_m) := rec42 a2 a4 (a5 + (-1)) m
def g_X14_divides__252_253_42_b (w : rf_w) (rec42 : Int32 → Int32 → Int32 → rf_m → Option (rf_m)) (a2 : Int32) (a4 : Int32) (a5 : Int32) (m : rf_m) : Option (rf_m) := (if a5 < 0 then some m else rf_bv (g_X14_adds__250_250 w m 0 0) fun m0 => rf_g (rf_in (a2 + (a5 / 32)) 6) (rf_bv (g_X14_adds__249_249 w (rf_i m0 250 (Int32.toNatClampNeg 0) ((m0.1 250 (Int32.toNatClampNeg 0)) ||| (((Int32.toUInt32 (m0.1 252 (Int32.toNatClampNeg (a2 + (a5 / 32)))) >>> (Int32.toUInt32 (a5 - a5 / 32 * 32) &&& Int32.toUInt32 31)).toInt32) &&& 1))) 0 0) fun m2 => rf_b (g_X14_isNoLess__250_253 w m2 0 a4) fun y3 m3 => (if y3 = 0 then g_X14_divides__252_253_139 w rec42 a2 a4 a5 m3 else rf_bv (g_X14_adds__250_251 w m3 0 0) fun m4 => g_X14_divides__252_253_139 w rec42 a2 a4 a5 (rf_i m4 249 (Int32.toNatClampNeg 0) ((m4.1 249 (Int32.toNatClampNeg 0)) ||| 1)))))
def g_X14_divides__252_253_42 (w : rf_w) : Nat → Int32 → Int32 → Int32 → rf_m → Option (rf_m)
  | 0, _, _, _, _ => none
  | n + 1, a2, a4, a5, m => g_X14_divides__252_253_42_b w (g_X14_divides__252_253_42 w n) a2 a4 a5 m
def g_X14_divides__252_253 (w : rf_w) (m : rf_m) (a2 : Int32) (a4 : Int32) : Option (rf_m) := rf_bv (g_X14_set__249 w m 0 0) fun m0 => rf_bv (g_X14_set__250 w m0 0 0) fun m1 => rf_bv (g_X14_copies__251_253 w m1 0 a4) fun m2 => rf_bv (g_X14_turns__251 w m2 0) fun m3 => g_X14_divides__252_253_42 w rf_fuel a2 a4 191 m3
theorem s_X14_divides__252_253_139 {w : rf_w} {K : rf_K} {r : rf_m} (C : rf_Ctx 14 cX14_divides 6 2 (rf_sh w) K) (hE : rf_End none K (rf_sh w) 0 0 none (rf_MM w r)) {rec42 : Int32 → Int32 → Int32 → rf_m → Option (rf_m)} (hr42 : ∀ (a2 : Int32) (a4 : Int32) (a5 : Int32) (m : rf_m), rec42 a2 a4 a5 m = some r → rf_V 6 (rf_sh w) K 0 0 42 ([(0, .ref 206), (1, .ref 252), (2, .int a2), (3, .ref 253), (4, .int a4), (5, .int a5)], [], rf_MM w m)) (a2 : Int32) (a4 : Int32) (a5 : Int32) (m : rf_m) (hg : g_X14_divides__252_253_139 w rec42 a2 a4 a5 m = some r) : rf_V 6 (rf_sh w) K 0 0 139 ([(0, .ref 206), (1, .ref 252), (2, .int a2), (3, .ref 253), (4, .int a4), (5, .int a5)], [], rf_MM w m) := by
  unfold g_X14_divides__252_253_139 at hg
  refine rf_seg C [(.iinc 5 (-1), 3)] (pc' := 142) (S' := ([(5, .int (a5 + (-1))), (0, .ref 206), (1, .ref 252), (2, .int a2), (3, .ref 253), (4, .int a4)], [], rf_MM w m)) (by decide +kernel) rfl trivial ?_
  refine rf_goto C (-100) 42 (by decide +kernel) ?_
  refine rf_few [1, 2, 3, 4, 5, 0] rfl ?_
  exact hr42 a2 a4 (a5 + (-1)) m hg
theorem s_X14_divides__252_253_42_b {w : rf_w} {K : rf_K} {r : rf_m} (C : rf_Ctx 14 cX14_divides 6 2 (rf_sh w) K) (hE : rf_End none K (rf_sh w) 0 0 none (rf_MM w r)) {rec42 : Int32 → Int32 → Int32 → rf_m → Option (rf_m)} (hr42 : ∀ (a2 : Int32) (a4 : Int32) (a5 : Int32) (m : rf_m), rec42 a2 a4 a5 m = some r → rf_V 6 (rf_sh w) K 0 0 42 ([(0, .ref 206), (1, .ref 252), (2, .int a2), (3, .ref 253), (4, .int a4), (5, .int a5)], [], rf_MM w m)) (a2 : Int32) (a4 : Int32) (a5 : Int32) (m : rf_m) (hg : g_X14_divides__252_253_42_b w rec42 a2 a4 a5 m = some r) : rf_V 6 (rf_sh w) K 0 0 42 ([(0, .ref 206), (1, .ref 252), (2, .int a2), (3, .ref 253), (4, .int a4), (5, .int a5)], [], rf_MM w m) := by
  unfold g_X14_divides__252_253_42_b at hg
  refine rf_seg C [(.iload 5, 2)] (pc' := 44) (S' := ([(0, .ref 206), (1, .ref 252), (2, .int a2), (3, .ref 253), (4, .int a4), (5, .int a5)], [.int a5], rf_MM w m)) (by decide +kernel) rfl trivial ?_
  refine rf_if_lt C 101 145 (by decide +kernel) (fun hc => ?_) (fun hc => ?_)
  · replace hg := (if_pos hc).symm.trans hg
    obtain rfl := Option.some.inj hg
    exact rf_vret C hE (by decide +kernel)
  · replace hg := (if_neg hc).symm.trans hg
    refine rf_seg C [(.aload 0, 1), (.invokeinterface 14 73, 3), (.iconst 0, 1), (.aload 0, 1), (.invokeinterface 14 73, 3), (.iconst 0, 1)] (pc' := 57) (S' := ([(0, .ref 206), (1, .ref 252), (2, .int a2), (3, .ref 253), (4, .int a4), (5, .int a5)], [.int 0, .ref 250, .int 0, .ref 250], rf_MM w m)) (by decide +kernel) rfl trivial ?_
    obtain ⟨m0, hc0, hg⟩ := rf_bv_some hg
    refine rf_calls C rf_fit0 j_X14_adds__250_250 (As := [.ref 250, .int 0, .ref 250, .int 0]) (rest := []) mw_X14_adds__250_250 (c_X14_adds__250_250 hc0) (by decide) lk_14_748 rfl rfl (Nat.le_of_ble_eq_true rfl) (by decide +kernel) ?_
    show rf_V 6 (rf_sh w) K 0 0 60 ([(0, .ref 206), (1, .ref 252), (2, .int a2), (3, .ref 253), (4, .int a4), (5, .int a5)], [], rf_MM w m0)
    obtain ⟨q1, hg⟩ := rf_g_some hg
    refine rf_seg C [(.aload 0, 1), (.invokeinterface 14 73, 3), (.iconst 0, 1), (.dup2, 1), (.iaload, 1), (.aload 1, 1), (.iload 2, 1), (.iload 5, 2), (.iconst 32, 2), (.idiv, 1), (.iadd, 1), (.iaload, 1), (.iload 5, 2), (.iconst 32, 2), (.irem, 1), (.iushr, 1), (.iconst 1, 1), (.iand, 1), (.ior, 1), (.iastore, 1), (.aload 0, 1), (.invokeinterface 14 72, 3), (.iconst 0, 1), (.aload 0, 1), (.invokeinterface 14 72, 3), (.iconst 0, 1)] (pc' := 96) (S' := ([(0, .ref 206), (1, .ref 252), (2, .int a2), (3, .ref 253), (4, .int a4), (5, .int a5)], [.int 0, .ref 249, .int 0, .ref 249], rf_MM w (rf_i m0 250 (Int32.toNatClampNeg 0) ((m0.1 250 (Int32.toNatClampNeg 0)) ||| (((Int32.toUInt32 (m0.1 252 (Int32.toNatClampNeg (a2 + (a5 / 32)))) >>> (Int32.toUInt32 (a5 - a5 / 32 * 32) &&& Int32.toUInt32 31)).toInt32) &&& 1))))) (by decide +kernel) rfl (by exact ⟨(rf_in_of (by decide)), (rf_nz_of (by decide)), (rf_in_of q1), (rf_nz_of (by decide)), (rf_in_of (by decide))⟩) ?_
    obtain ⟨m2, hc2, hg⟩ := rf_bv_some hg
    refine rf_calls C rf_fit0 j_X14_adds__249_249 (As := [.ref 249, .int 0, .ref 249, .int 0]) (rest := []) mw_X14_adds__249_249 (c_X14_adds__249_249 hc2) (by decide) lk_14_748 rfl rfl (Nat.le_of_ble_eq_true rfl) (by decide +kernel) ?_
    show rf_V 6 (rf_sh w) K 0 0 99 ([(0, .ref 206), (1, .ref 252), (2, .int a2), (3, .ref 253), (4, .int a4), (5, .int a5)], [], rf_MM w m2)
    refine rf_seg C [(.aload 0, 1), (.invokeinterface 14 73, 3), (.iconst 0, 1), (.aload 3, 1), (.iload 4, 2)] (pc' := 107) (S' := ([(0, .ref 206), (1, .ref 252), (2, .int a2), (3, .ref 253), (4, .int a4), (5, .int a5)], [.int a4, .ref 253, .int 0, .ref 250], rf_MM w m2)) (by decide +kernel) rfl trivial ?_
    obtain ⟨y3, m3, hc3, hg⟩ := rf_b_some hg
    refine rf_calls C rf_fit0 j_X14_isNoLess__250_253 (As := [.ref 250, .int 0, .ref 253, .int a4]) (rest := []) mw_X14_isNoLess__250_253 (c_X14_isNoLess__250_253 hc3) (by decide) lk_14_751 rfl rfl (Nat.le_of_ble_eq_true rfl) (by decide +kernel) ?_
    show rf_V 6 (rf_sh w) K 0 0 110 ([(0, .ref 206), (1, .ref 252), (2, .int a2), (3, .ref 253), (4, .int a4), (5, .int a5)], [.int y3], rf_MM w m3)
    refine rf_if_ne C 6 116 (by decide +kernel) (fun hc => ?_) (fun hc => ?_)
    · replace hg := (if_neg hc).symm.trans hg
      refine rf_seg C [(.aload 0, 1), (.invokeinterface 14 73, 3), (.iconst 0, 1), (.aload 0, 1), (.invokeinterface 14 74, 3), (.iconst 0, 1)] (pc' := 126) (S' := ([(0, .ref 206), (1, .ref 252), (2, .int a2), (3, .ref 253), (4, .int a4), (5, .int a5)], [.int 0, .ref 251, .int 0, .ref 250], rf_MM w m3)) (by decide +kernel) rfl trivial ?_
      obtain ⟨m4, hc4, hg⟩ := rf_bv_some hg
      refine rf_calls C rf_fit0 j_X14_adds__250_251 (As := [.ref 250, .int 0, .ref 251, .int 0]) (rest := []) mw_X14_adds__250_251 (c_X14_adds__250_251 hc4) (by decide) lk_14_748 rfl rfl (Nat.le_of_ble_eq_true rfl) (by decide +kernel) ?_
      show rf_V 6 (rf_sh w) K 0 0 129 ([(0, .ref 206), (1, .ref 252), (2, .int a2), (3, .ref 253), (4, .int a4), (5, .int a5)], [], rf_MM w m4)
      refine rf_seg C [(.aload 0, 1), (.invokeinterface 14 72, 3), (.iconst 0, 1), (.dup2, 1), (.iaload, 1), (.iconst 1, 1), (.ior, 1), (.iastore, 1)] (pc' := 139) (S' := ([(0, .ref 206), (1, .ref 252), (2, .int a2), (3, .ref 253), (4, .int a4), (5, .int a5)], [], rf_MM w (rf_i m4 249 (Int32.toNatClampNeg 0) ((m4.1 249 (Int32.toNatClampNeg 0)) ||| 1)))) (by decide +kernel) rfl (by exact ⟨(rf_in_of (by decide)), (rf_in_of (by decide))⟩) ?_
      refine rf_few [0, 1, 2, 3, 4, 5] rfl ?_
      exact s_X14_divides__252_253_139 C hE hr42 a2 a4 a5 (rf_i m4 249 (Int32.toNatClampNeg 0) ((m4.1 249 (Int32.toNatClampNeg 0)) ||| 1)) hg
    · replace hg := (if_pos hc).symm.trans hg
      refine rf_goto C 26 139 (by decide +kernel) ?_
      refine rf_few [0, 1, 2, 3, 4, 5] rfl ?_
      exact s_X14_divides__252_253_139 C hE hr42 a2 a4 a5 m3 hg
theorem s_X14_divides__252_253_42 {w : rf_w} {K : rf_K} {r : rf_m} (C : rf_Ctx 14 cX14_divides 6 2 (rf_sh w) K) (hE : rf_End none K (rf_sh w) 0 0 none (rf_MM w r)) (n : Nat) : ∀ (a2 : Int32) (a4 : Int32) (a5 : Int32) (m : rf_m), g_X14_divides__252_253_42 w n a2 a4 a5 m = some r → rf_V 6 (rf_sh w) K 0 0 42 ([(0, .ref 206), (1, .ref 252), (2, .int a2), (3, .ref 253), (4, .int a4), (5, .int a5)], [], rf_MM w m) := by
  induction n with
  | zero => intro a2 a4 a5 m hg; cases hg
  | succ n ih => intro a2 a4 a5 m hg; exact s_X14_divides__252_253_42_b C hE ih a2 a4 a5 m hg
theorem c_X14_divides__252_253 {w : rf_w} {m : rf_m} {a2 : Int32} {a4 : Int32} {r : rf_m} (hg : g_X14_divides__252_253 w m a2 a4 = some r) : rf_Con j_X14_divides__252_253 2 (rf_sh w) [.ref 206, .ref 252, .int a2, .ref 253, .int a4] (rf_MM w m) none (rf_MM w r) := by
  refine rf_con j_X14_divides__252_253 2 ⟨by decide +kernel, rfl, Nat.le_of_ble_eq_true rfl⟩ (fun K C hE => ?_)
  unfold g_X14_divides__252_253 at hg
  show rf_V 6 (rf_sh w) K 0 0 0 ([(0, .ref 206), (1, .ref 252), (2, .int a2), (3, .ref 253), (4, .int a4)], [], rf_MM w m)
  refine rf_seg C [(.aload 0, 1), (.invokeinterface 14 72, 3), (.iconst 0, 1), (.goto_w 0, 1)] (pc' := 6) (S' := ([(0, .ref 206), (1, .ref 252), (2, .int a2), (3, .ref 253), (4, .int a4)], [.long 0, .int 0, .ref 249], rf_MM w m)) (by decide +kernel) rfl trivial ?_
  obtain ⟨m0, hc0, hg⟩ := rf_bv_some hg
  refine rf_calls C rf_fit0 j_X14_set__249 (As := [.ref 249, .int 0, .long 0]) (rest := []) mw_X14_set__249 (c_X14_set__249 hc0) (by decide) lk_14_740 rfl rfl (Nat.le_of_ble_eq_true rfl) (by decide +kernel) ?_
  show rf_V 6 (rf_sh w) K 0 0 9 ([(0, .ref 206), (1, .ref 252), (2, .int a2), (3, .ref 253), (4, .int a4)], [], rf_MM w m0)
  refine rf_seg C [(.aload 0, 1), (.invokeinterface 14 73, 3), (.iconst 0, 1), (.goto_w 0, 1)] (pc' := 15) (S' := ([(0, .ref 206), (1, .ref 252), (2, .int a2), (3, .ref 253), (4, .int a4)], [.long 0, .int 0, .ref 250], rf_MM w m0)) (by decide +kernel) rfl trivial ?_
  obtain ⟨m1, hc1, hg⟩ := rf_bv_some hg
  refine rf_calls C rf_fit0 j_X14_set__250 (As := [.ref 250, .int 0, .long 0]) (rest := []) mw_X14_set__250 (c_X14_set__250 hc1) (by decide) lk_14_740 rfl rfl (Nat.le_of_ble_eq_true rfl) (by decide +kernel) ?_
  show rf_V 6 (rf_sh w) K 0 0 18 ([(0, .ref 206), (1, .ref 252), (2, .int a2), (3, .ref 253), (4, .int a4)], [], rf_MM w m1)
  refine rf_seg C [(.aload 0, 1), (.invokeinterface 14 74, 3), (.iconst 0, 1), (.aload 3, 1), (.iload 4, 2)] (pc' := 26) (S' := ([(0, .ref 206), (1, .ref 252), (2, .int a2), (3, .ref 253), (4, .int a4)], [.int a4, .ref 253, .int 0, .ref 251], rf_MM w m1)) (by decide +kernel) rfl trivial ?_
  obtain ⟨m2, hc2, hg⟩ := rf_bv_some hg
  refine rf_calls C rf_fit0 j_X14_copies__251_253 (As := [.ref 251, .int 0, .ref 253, .int a4]) (rest := []) mw_X14_copies__251_253 (c_X14_copies__251_253 hc2) (by decide) lk_14_744 rfl rfl (Nat.le_of_ble_eq_true rfl) (by decide +kernel) ?_
  show rf_V 6 (rf_sh w) K 0 0 29 ([(0, .ref 206), (1, .ref 252), (2, .int a2), (3, .ref 253), (4, .int a4)], [], rf_MM w m2)
  refine rf_seg C [(.aload 0, 1), (.invokeinterface 14 74, 3), (.iconst 0, 1)] (pc' := 34) (S' := ([(0, .ref 206), (1, .ref 252), (2, .int a2), (3, .ref 253), (4, .int a4)], [.int 0, .ref 251], rf_MM w m2)) (by decide +kernel) rfl trivial ?_
  obtain ⟨m3, hc3, hg⟩ := rf_bv_some hg
  refine rf_calls C rf_fit0 j_X14_turns__251 (As := [.ref 251, .int 0]) (rest := []) mw_X14_turns__251 (c_X14_turns__251 hc3) (by decide) lk_14_736 rfl rfl (Nat.le_of_ble_eq_true rfl) (by decide +kernel) ?_
  show rf_V 6 (rf_sh w) K 0 0 37 ([(0, .ref 206), (1, .ref 252), (2, .int a2), (3, .ref 253), (4, .int a4)], [], rf_MM w m3)
  refine rf_seg C [(.iconst 191, 3), (.istore 5, 2)] (pc' := 42) (S' := ([(5, .int 191), (0, .ref 206), (1, .ref 252), (2, .int a2), (3, .ref 253), (4, .int a4)], [], rf_MM w m3)) (by decide +kernel) rfl trivial ?_
  refine rf_few [1, 2, 3, 4, 5, 0] rfl ?_
  exact s_X14_divides__252_253_42 C hE rf_fuel a2 a4 191 m3 hg
-- X14_isZero__250
abbrev j_X14_isZero__250 : rf_J := (14, yX14_isZero, cX14_isZero, 4, (some .boolean))
theorem mw_X14_isZero__250 : rf_ms j_X14_isZero__250 2 := ⟨⟨rf_mem 72 (by decide +kernel), rf_mem 0 (by decide +kernel), rf_mem 72 (by decide +kernel)⟩, by decide +kernel, by decide⟩
def g_X14_isZero__250_27 (w : rf_w) (rec4 : Int32 → Int32 → Int32 → rf_m → Option (Int32 × rf_m)) (a1 : Int32) (a3 : Int32) (s0 : Int32) (m : rf_m) : Option (Int32 × rf_m) := rec4 a1 s0 (a3 + 1) m
def g_X14_isZero__250_26 (w : rf_w) (rec4 : Int32 → Int32 → Int32 → rf_m → Option (Int32 × rf_m)) (a1 : Int32) (a3 : Int32) (m : rf_m) : Option (Int32 × rf_m) := g_X14_isZero__250_27 w rec4 a1 a3 0 m
def g_X14_isZero__250_4_b (w : rf_w) (rec4 : Int32 → Int32 → Int32 → rf_m → Option (Int32 × rf_m)) (a1 : Int32) (a2 : Int32) (a3 : Int32) (m : rf_m) : Option (Int32 × rf_m) := (if 6 ≤ a3 then rf_g (rf_01 a2) (some (a2, m)) else (if a2 = 0 then g_X14_isZero__250_26 w rec4 a1 a3 m else rf_g (rf_in (a1 + a3) 6) ((if (m.1 250 (Int32.toNatClampNeg (a1 + a3))) = 0 then g_X14_isZero__250_27 w rec4 a1 a3 1 m else g_X14_isZero__250_26 w rec4 a1 a3 m))))
def g_X14_isZero__250_4 (w : rf_w) : Nat → Int32 → Int32 → Int32 → rf_m → Option (Int32 × rf_m)
  | 0, _, _, _, _ => none
  | n + 1, a1, a2, a3, m => g_X14_isZero__250_4_b w (g_X14_isZero__250_4 w n) a1 a2 a3 m
def g_X14_isZero__250 (w : rf_w) (m : rf_m) (a1 : Int32) : Option (Int32 × rf_m) := g_X14_isZero__250_4 w rf_fuel a1 1 0 m
theorem s_X14_isZero__250_27 {w : rf_w} {K : rf_K} {r : Int32 × rf_m} (C : rf_Ctx 14 cX14_isZero 4 1 (rf_sh w) K) (hE : rf_End (some .boolean) K (rf_sh w) 0 0 (some (.int r.1)) (rf_MM w r.2)) {rec4 : Int32 → Int32 → Int32 → rf_m → Option (Int32 × rf_m)} (hr4 : ∀ (a1 : Int32) (a2 : Int32) (a3 : Int32) (m : rf_m), rec4 a1 a2 a3 m = some r → rf_V 4 (rf_sh w) K 0 0 4 ([(0, .ref 250), (1, .int a1), (2, .int a2), (3, .int a3)], [], rf_MM w m)) (a1 : Int32) (a3 : Int32) (s0 : Int32) (m : rf_m) (hg : g_X14_isZero__250_27 w rec4 a1 a3 s0 m = some r) : rf_V 4 (rf_sh w) K 0 0 27 ([(0, .ref 250), (1, .int a1), (3, .int a3)], [.int s0], rf_MM w m) := by
  unfold g_X14_isZero__250_27 at hg
  refine rf_seg C [(.istore 2, 1), (.iinc 3 1, 3)] (pc' := 31) (S' := ([(3, .int (a3 + 1)), (2, .int s0), (0, .ref 250), (1, .int a1)], [], rf_MM w m)) (by decide +kernel) rfl trivial ?_
  refine rf_goto C (-27) 4 (by decide +kernel) ?_
  refine rf_few [2, 3, 1, 0] rfl ?_
  exact hr4 a1 s0 (a3 + 1) m hg
theorem s_X14_isZero__250_26 {w : rf_w} {K : rf_K} {r : Int32 × rf_m} (C : rf_Ctx 14 cX14_isZero 4 1 (rf_sh w) K) (hE : rf_End (some .boolean) K (rf_sh w) 0 0 (some (.int r.1)) (rf_MM w r.2)) {rec4 : Int32 → Int32 → Int32 → rf_m → Option (Int32 × rf_m)} (hr4 : ∀ (a1 : Int32) (a2 : Int32) (a3 : Int32) (m : rf_m), rec4 a1 a2 a3 m = some r → rf_V 4 (rf_sh w) K 0 0 4 ([(0, .ref 250), (1, .int a1), (2, .int a2), (3, .int a3)], [], rf_MM w m)) (a1 : Int32) (a3 : Int32) (m : rf_m) (hg : g_X14_isZero__250_26 w rec4 a1 a3 m = some r) : rf_V 4 (rf_sh w) K 0 0 26 ([(0, .ref 250), (1, .int a1), (3, .int a3)], [], rf_MM w m) := by
  unfold g_X14_isZero__250_26 at hg
  refine rf_seg C [(.iconst 0, 1)] (pc' := 27) (S' := ([(0, .ref 250), (1, .int a1), (3, .int a3)], [.int 0], rf_MM w m)) (by decide +kernel) rfl trivial ?_
  refine rf_few [0, 1, 2] rfl ?_
  exact s_X14_isZero__250_27 C hE hr4 a1 a3 0 m hg
theorem s_X14_isZero__250_4_b {w : rf_w} {K : rf_K} {r : Int32 × rf_m} (C : rf_Ctx 14 cX14_isZero 4 1 (rf_sh w) K) (hE : rf_End (some .boolean) K (rf_sh w) 0 0 (some (.int r.1)) (rf_MM w r.2)) {rec4 : Int32 → Int32 → Int32 → rf_m → Option (Int32 × rf_m)} (hr4 : ∀ (a1 : Int32) (a2 : Int32) (a3 : Int32) (m : rf_m), rec4 a1 a2 a3 m = some r → rf_V 4 (rf_sh w) K 0 0 4 ([(0, .ref 250), (1, .int a1), (2, .int a2), (3, .int a3)], [], rf_MM w m)) (a1 : Int32) (a2 : Int32) (a3 : Int32) (m : rf_m) (hg : g_X14_isZero__250_4_b w rec4 a1 a2 a3 m = some r) : rf_V 4 (rf_sh w) K 0 0 4 ([(0, .ref 250), (1, .int a1), (2, .int a2), (3, .int a3)], [], rf_MM w m) := by
  unfold g_X14_isZero__250_4_b at hg
  refine rf_seg C [(.iload 3, 1), (.iconst 6, 2)] (pc' := 7) (S' := ([(0, .ref 250), (1, .int a1), (2, .int a2), (3, .int a3)], [.int 6, .int a3], rf_MM w m)) (by decide +kernel) rfl trivial ?_
  refine rf_icmp_ge C 27 34 (by decide +kernel) (fun hc => ?_) (fun hc => ?_)
  · replace hg := (if_pos hc).symm.trans hg
    refine rf_seg C [(.iload 2, 1)] (pc' := 35) (S' := ([(0, .ref 250), (1, .int a1), (2, .int a2), (3, .int a3)], [.int a2], rf_MM w m)) (by decide +kernel) rfl trivial ?_
    obtain ⟨q01, hg⟩ := rf_g_some hg
    obtain rfl := Option.some.inj hg
    exact rf_zret C hE (rf_01_of q01) (by decide +kernel)
  · replace hg := (if_neg hc).symm.trans hg
    refine rf_seg C [(.iload 2, 1)] (pc' := 11) (S' := ([(0, .ref 250), (1, .int a1), (2, .int a2), (3, .int a3)], [.int a2], rf_MM w m)) (by decide +kernel) rfl trivial ?_
    refine rf_if_eq C 15 26 (by decide +kernel) (fun hc => ?_) (fun hc => ?_)
    · replace hg := (if_pos hc).symm.trans hg
      refine rf_few [0, 1, 3] rfl ?_
      exact s_X14_isZero__250_26 C hE hr4 a1 a3 m hg
    · replace hg := (if_neg hc).symm.trans hg
      obtain ⟨q0, hg⟩ := rf_g_some hg
      refine rf_seg C [(.aload 0, 1), (.iload 1, 1), (.iload 3, 1), (.iadd, 1), (.iaload, 1)] (pc' := 19) (S' := ([(0, .ref 250), (1, .int a1), (2, .int a2), (3, .int a3)], [.int (m.1 250 (Int32.toNatClampNeg (a1 + a3)))], rf_MM w m)) (by decide +kernel) rfl (rf_in_of q0) ?_
      refine rf_if_ne C 7 26 (by decide +kernel) (fun hc => ?_) (fun hc => ?_)
      · replace hg := (if_neg hc).symm.trans hg
        refine rf_few [0, 1, 3] rfl ?_
        exact s_X14_isZero__250_26 C hE hr4 a1 a3 m hg
      · replace hg := (if_pos hc).symm.trans hg
        refine rf_seg C [(.iconst 1, 1)] (pc' := 23) (S' := ([(0, .ref 250), (1, .int a1), (2, .int a2), (3, .int a3)], [.int 1], rf_MM w m)) (by decide +kernel) rfl trivial ?_
        refine rf_goto C 4 27 (by decide +kernel) ?_
        refine rf_few [0, 1, 3] rfl ?_
        exact s_X14_isZero__250_27 C hE hr4 a1 a3 1 m hg
theorem s_X14_isZero__250_4 {w : rf_w} {K : rf_K} {r : Int32 × rf_m} (C : rf_Ctx 14 cX14_isZero 4 1 (rf_sh w) K) (hE : rf_End (some .boolean) K (rf_sh w) 0 0 (some (.int r.1)) (rf_MM w r.2)) (n : Nat) : ∀ (a1 : Int32) (a2 : Int32) (a3 : Int32) (m : rf_m), g_X14_isZero__250_4 w n a1 a2 a3 m = some r → rf_V 4 (rf_sh w) K 0 0 4 ([(0, .ref 250), (1, .int a1), (2, .int a2), (3, .int a3)], [], rf_MM w m) := by
  induction n with
  | zero => intro a1 a2 a3 m hg; cases hg
  | succ n ih => intro a1 a2 a3 m hg; exact s_X14_isZero__250_4_b C hE ih a1 a2 a3 m hg
theorem c_X14_isZero__250 {w : rf_w} {m : rf_m} {a1 : Int32} {r : Int32 × rf_m} (hg : g_X14_isZero__250 w m a1 = some r) : rf_Con j_X14_isZero__250 1 (rf_sh w) [.ref 250, .int a1] (rf_MM w m) (some (.int r.1)) (rf_MM w r.2) := by
  refine rf_con j_X14_isZero__250 1 ⟨by decide +kernel, rfl, Nat.le_of_ble_eq_true rfl⟩ (fun K C hE => ?_)
  unfold g_X14_isZero__250 at hg
  show rf_V 4 (rf_sh w) K 0 0 0 ([(0, .ref 250), (1, .int a1)], [], rf_MM w m)
  refine rf_seg C [(.iconst 1, 1), (.istore 2, 1), (.iconst 0, 1), (.istore 3, 1)] (pc' := 4) (S' := ([(3, .int 0), (2, .int 1), (0, .ref 250), (1, .int a1)], [], rf_MM w m)) (by decide +kernel) rfl trivial ?_
  refine rf_few [2, 3, 1, 0] rfl ?_
  exact s_X14_isZero__250_4 C hE rf_fuel a1 1 0 m hg
-- X14_turns__249
abbrev j_X14_turns__249 : rf_J := (14, yX14_turns, cX14_turns, 5, none)
theorem mw_X14_turns__249 : rf_ms j_X14_turns__249 2 := ⟨⟨rf_mem 71 (by decide +kernel), rf_mem 0 (by decide +kernel), rf_mem 71 (by decide +kernel)⟩, by decide +kernel, by decide⟩
def g_X14_turns__249_5_b (w : rf_w) (rec5 : Int32 → Int64 → Int32 → rf_m → Option (rf_m)) (a1 : Int32) (a2 : Int64) (a4 : Int32) (m : rf_m) : Option (rf_m) := (if 6 ≤ a4 then some m else rf_g (rf_in (a1 + a4) 6) (rf_vl (a2 + ((Int32.toInt64 ((m.1 249 (Int32.toNatClampNeg (a1 + a4))) ^^^ ((-1)))) &&& 4294967295)) fun x1 => rf_g (rf_in (a1 + a4) 6) (rf_vl ((Int64.toUInt64 x1 >>> ((Int32.toInt64 32).toUInt64 &&& Int64.toUInt64 63)).toInt64) fun x3 => rec5 a1 x3 (a4 + 1) (rf_i m 249 (Int32.toNatClampNeg (a1 + a4)) (Int64.toInt32 x1)))))
def g_X14_turns__249_5 (w : rf_w) : Nat → Int32 → Int64 → Int32 → rf_m → Option (rf_m)
  | 0, _, _, _, _ => none
  | n + 1, a1, a2, a4, m => g_X14_turns__249_5_b w (g_X14_turns__249_5 w n) a1 a2 a4 m
def g_X14_turns__249 (w : rf_w) (m : rf_m) (a1 : Int32) : Option (rf_m) := g_X14_turns__249_5 w rf_fuel a1 1 0 m
theorem s_X14_turns__249_5_b {w : rf_w} {K : rf_K} {r : rf_m} (C : rf_Ctx 14 cX14_turns 5 1 (rf_sh w) K) (hE : rf_End none K (rf_sh w) 0 0 none (rf_MM w r)) {rec5 : Int32 → Int64 → Int32 → rf_m → Option (rf_m)} (hr5 : ∀ (a1 : Int32) (a2 : Int64) (a4 : Int32) (m : rf_m), rec5 a1 a2 a4 m = some r → rf_V 5 (rf_sh w) K 0 0 5 ([(0, .ref 249), (1, .int a1), (2, .long a2), (4, .int a4)], [], rf_MM w m)) (a1 : Int32) (a2 : Int64) (a4 : Int32) (m : rf_m) (hg : g_X14_turns__249_5_b w rec5 a1 a2 a4 m = some r) : rf_V 5 (rf_sh w) K 0 0 5 ([(0, .ref 249), (1, .int a1), (2, .long a2), (4, .int a4)], [], rf_MM w m) := by
  unfold g_X14_turns__249_5_b at hg
  refine rf_seg C [(.iload 4, 2), (.iconst 6, 2)] (pc' := 9) (S' := ([(0, .ref 249), (1, .int a1), (2, .long a2), (4, .int a4)], [.int 6, .int a4], rf_MM w m)) (by decide +kernel) rfl trivial ?_
  refine rf_icmp_ge C 38 47 (by decide +kernel) (fun hc => ?_) (fun hc => ?_)
  · replace hg := (if_pos hc).symm.trans hg
    obtain rfl := Option.some.inj hg
    exact rf_vret C hE (by decide +kernel)
  · replace hg := (if_neg hc).symm.trans hg
    obtain ⟨q0, hg⟩ := rf_g_some hg
    refine rf_seg C [(.lload 2, 1), (.aload 0, 1), (.iload 1, 1), (.iload 4, 2), (.iadd, 1), (.iaload, 1), (.iconst (-1), 1), (.ixor, 1), (.i2l, 1), (.goto_w 4294967295, 3), (.land, 1), (.ladd, 1)] (pc' := 27) (S' := ([(0, .ref 249), (1, .int a1), (2, .long a2), (4, .int a4)], [.long (a2 + ((Int32.toInt64 ((m.1 249 (Int32.toNatClampNeg (a1 + a4))) ^^^ ((-1)))) &&& 4294967295))], rf_MM w m)) (by decide +kernel) rfl (rf_in_of q0) ?_
    obtain ⟨x1, hx1, hg⟩ := rf_vl_some hg
    refine rf_vl_top hx1 ?_
    obtain ⟨q2, hg⟩ := rf_g_some hg
    refine rf_seg C [(.lstore 2, 1), (.aload 0, 1), (.iload 1, 1), (.iload 4, 2), (.iadd, 1), (.lload 2, 1), (.l2i, 1), (.iastore, 1), (.lload 2, 1), (.iconst 32, 2), (.lushr, 1)] (pc' := 40) (S' := ([(2, .long x1), (0, .ref 249), (1, .int a1), (4, .int a4)], [.long ((Int64.toUInt64 x1 >>> ((Int32.toInt64 32).toUInt64 &&& Int64.toUInt64 63)).toInt64)], rf_MM w (rf_i m 249 (Int32.toNatClampNeg (a1 + a4)) (Int64.toInt32 x1)))) (by decide +kernel) rfl (rf_in_of q2) ?_
    obtain ⟨x3, hx3, hg⟩ := rf_vl_some hg
    refine rf_vl_top hx3 ?_
    refine rf_seg C [(.lstore 2, 1), (.iinc 4 1, 3)] (pc' := 44) (S' := ([(4, .int (a4 + 1)), (2, .long x3), (0, .ref 249), (1, .int a1)], [], rf_MM w (rf_i m 249 (Int32.toNatClampNeg (a1 + a4)) (Int64.toInt32 x1)))) (by decide +kernel) rfl trivial ?_
    refine rf_goto C (-39) 5 (by decide +kernel) ?_
    refine rf_few [2, 3, 1, 0] rfl ?_
    exact hr5 a1 x3 (a4 + 1) (rf_i m 249 (Int32.toNatClampNeg (a1 + a4)) (Int64.toInt32 x1)) hg
theorem s_X14_turns__249_5 {w : rf_w} {K : rf_K} {r : rf_m} (C : rf_Ctx 14 cX14_turns 5 1 (rf_sh w) K) (hE : rf_End none K (rf_sh w) 0 0 none (rf_MM w r)) (n : Nat) : ∀ (a1 : Int32) (a2 : Int64) (a4 : Int32) (m : rf_m), g_X14_turns__249_5 w n a1 a2 a4 m = some r → rf_V 5 (rf_sh w) K 0 0 5 ([(0, .ref 249), (1, .int a1), (2, .long a2), (4, .int a4)], [], rf_MM w m) := by
  induction n with
  | zero => intro a1 a2 a4 m hg; cases hg
  | succ n ih => intro a1 a2 a4 m hg; exact s_X14_turns__249_5_b C hE ih a1 a2 a4 m hg
theorem c_X14_turns__249 {w : rf_w} {m : rf_m} {a1 : Int32} {r : rf_m} (hg : g_X14_turns__249 w m a1 = some r) : rf_Con j_X14_turns__249 1 (rf_sh w) [.ref 249, .int a1] (rf_MM w m) none (rf_MM w r) := by
  refine rf_con j_X14_turns__249 1 ⟨by decide +kernel, rfl, Nat.le_of_ble_eq_true rfl⟩ (fun K C hE => ?_)
  unfold g_X14_turns__249 at hg
  show rf_V 5 (rf_sh w) K 0 0 0 ([(0, .ref 249), (1, .int a1)], [], rf_MM w m)
  refine rf_seg C [(.goto_w 1, 1), (.lstore 2, 1), (.iconst 0, 1), (.istore 4, 2)] (pc' := 5) (S' := ([(4, .int 0), (2, .long 1), (0, .ref 249), (1, .int a1)], [], rf_MM w m)) (by decide +kernel) rfl trivial ?_
  refine rf_few [2, 3, 1, 0] rfl ?_
  exact s_X14_turns__249_5 C hE rf_fuel a1 1 0 m hg
-- X14_set__251
abbrev j_X14_set__251 : rf_J := (14, yX14_set, cX14_set, 5, none)
theorem mw_X14_set__251 : rf_ms j_X14_set__251 3 := ⟨⟨rf_mem 71 (by decide +kernel), rf_mem 0 (by decide +kernel), rf_mem 71 (by decide +kernel)⟩, by decide +kernel, by decide⟩
def g_X14_set__251_50 (w : rf_w) (rec3 : Int32 → Int64 → Int32 → rf_m → Option (rf_m)) (a1 : Int32) (a2 : Int64) (a4 : Int32) (s1 : Int32) (s2 : Int32) (m : rf_m) : Option (rf_m) := rf_g (rf_in s1 6) (rec3 a1 a2 (a4 + 1) (rf_i m 251 (Int32.toNatClampNeg s1) s2))
def g_X14_set__251_3_b (w : rf_w) (rec3 : Int32 → Int64 → Int32 → rf_m → Option (rf_m)) (a1 : Int32) (a2 : Int64) (a4 : Int32) (m : rf_m) : Option (rf_m) := (if 6 ≤ a4 then some m else (if a4 = 0 then g_X14_set__251_50 w rec3 a1 a2 a4 (a1 + a4) (Int64.toInt32 a2) m else (if a4 = 1 then g_X14_set__251_50 w rec3 a1 a2 a4 (a1 + a4) (Int64.toInt32 (a2 >>> (Int32.toInt64 32 &&& 63))) m else (if (0 : Int32) ≤ (lg_cmp a2 0) then g_X14_set__251_50 w rec3 a1 a2 a4 (a1 + a4) 0 m else g_X14_set__251_50 w rec3 a1 a2 a4 (a1 + a4) ((-1)) m))))
def g_X14_set__251_3 (w : rf_w) : Nat → Int32 → Int64 → Int32 → rf_m → Option (rf_m)
  | 0, _, _, _, _ => none
  | n + 1, a1, a2, a4, m => g_X14_set__251_3_b w (g_X14_set__251_3 w n) a1 a2 a4 m
def g_X14_set__251 (w : rf_w) (m : rf_m) (a1 : Int32) (a2 : Int64) : Option (rf_m) := g_X14_set__251_3 w rf_fuel a1 a2 0 m
theorem s_X14_set__251_50 {w : rf_w} {K : rf_K} {r : rf_m} (C : rf_Ctx 14 cX14_set 5 1 (rf_sh w) K) (hE : rf_End none K (rf_sh w) 0 0 none (rf_MM w r)) {rec3 : Int32 → Int64 → Int32 → rf_m → Option (rf_m)} (hr3 : ∀ (a1 : Int32) (a2 : Int64) (a4 : Int32) (m : rf_m), rec3 a1 a2 a4 m = some r → rf_V 5 (rf_sh w) K 0 0 3 ([(0, .ref 251), (1, .int a1), (2, .long a2), (4, .int a4)], [], rf_MM w m)) (a1 : Int32) (a2 : Int64) (a4 : Int32) (s1 : Int32) (s2 : Int32) (m : rf_m) (hg : g_X14_set__251_50 w rec3 a1 a2 a4 s1 s2 m = some r) : rf_V 5 (rf_sh w) K 0 0 50 ([(0, .ref 251), (1, .int a1), (2, .long a2), (4, .int a4)], [.int s2, .int s1, .ref 251], rf_MM w m) := by
  unfold g_X14_set__251_50 at hg
  obtain ⟨q0, hg⟩ := rf_g_some hg
  refine rf_seg C [(.iastore, 1), (.iinc 4 1, 3)] (pc' := 54) (S' := ([(4, .int (a4 + 1)), (0, .ref 251), (1, .int a1), (2, .long a2)], [], rf_MM w (rf_i m 251 (Int32.toNatClampNeg s1) s2))) (by decide +kernel) rfl (rf_in_of q0) ?_
  refine rf_goto C (-51) 3 (by decide +kernel) ?_
  refine rf_few [1, 2, 3, 0] rfl ?_
  exact hr3 a1 a2 (a4 + 1) (rf_i m 251 (Int32.toNatClampNeg s1) s2) hg
theorem s_X14_set__251_3_b {w : rf_w} {K : rf_K} {r : rf_m} (C : rf_Ctx 14 cX14_set 5 1 (rf_sh w) K) (hE : rf_End none K (rf_sh w) 0 0 none (rf_MM w r)) {rec3 : Int32 → Int64 → Int32 → rf_m → Option (rf_m)} (hr3 : ∀ (a1 : Int32) (a2 : Int64) (a4 : Int32) (m : rf_m), rec3 a1 a2 a4 m = some r → rf_V 5 (rf_sh w) K 0 0 3 ([(0, .ref 251), (1, .int a1), (2, .long a2), (4, .int a4)], [], rf_MM w m)) (a1 : Int32) (a2 : Int64) (a4 : Int32) (m : rf_m) (hg : g_X14_set__251_3_b w rec3 a1 a2 a4 m = some r) : rf_V 5 (rf_sh w) K 0 0 3 ([(0, .ref 251), (1, .int a1), (2, .long a2), (4, .int a4)], [], rf_MM w m) := by
  unfold g_X14_set__251_3_b at hg
  refine rf_seg C [(.iload 4, 2), (.iconst 6, 2)] (pc' := 7) (S' := ([(0, .ref 251), (1, .int a1), (2, .long a2), (4, .int a4)], [.int 6, .int a4], rf_MM w m)) (by decide +kernel) rfl trivial ?_
  refine rf_icmp_ge C 50 57 (by decide +kernel) (fun hc => ?_) (fun hc => ?_)
  · replace hg := (if_pos hc).symm.trans hg
    obtain rfl := Option.some.inj hg
    exact rf_vret C hE (by decide +kernel)
  · replace hg := (if_neg hc).symm.trans hg
    refine rf_seg C [(.aload 0, 1), (.iload 1, 1), (.iload 4, 2), (.iadd, 1), (.iload 4, 2)] (pc' := 17) (S' := ([(0, .ref 251), (1, .int a1), (2, .long a2), (4, .int a4)], [.int a4, .int (a1 + a4), .ref 251], rf_MM w m)) (by decide +kernel) rfl trivial ?_
    refine rf_if_ne C 8 25 (by decide +kernel) (fun hc => ?_) (fun hc => ?_)
    · replace hg := (if_neg hc).symm.trans hg
      refine rf_seg C [(.iload 4, 2), (.iconst 1, 1)] (pc' := 28) (S' := ([(0, .ref 251), (1, .int a1), (2, .long a2), (4, .int a4)], [.int 1, .int a4, .int (a1 + a4), .ref 251], rf_MM w m)) (by decide +kernel) rfl trivial ?_
      refine rf_icmp_ne C 11 39 (by decide +kernel) (fun hc => ?_) (fun hc => ?_)
      · replace hg := (if_neg hc).symm.trans hg
        refine rf_seg C [(.lload 2, 1), (.goto_w 0, 1), (.lcmp, 1)] (pc' := 42) (S' := ([(0, .ref 251), (1, .int a1), (2, .long a2), (4, .int a4)], [.int (lg_cmp a2 0), .int (a1 + a4), .ref 251], rf_MM w m)) (by decide +kernel) rfl trivial ?_
        refine rf_if_ge C 7 49 (by decide +kernel) (fun hc => ?_) (fun hc => ?_)
        · replace hg := (if_pos hc).symm.trans hg
          refine rf_seg C [(.iconst 0, 1)] (pc' := 50) (S' := ([(0, .ref 251), (1, .int a1), (2, .long a2), (4, .int a4)], [.int 0, .int (a1 + a4), .ref 251], rf_MM w m)) (by decide +kernel) rfl trivial ?_
          refine rf_few [0, 1, 2, 3] rfl ?_
          exact s_X14_set__251_50 C hE hr3 a1 a2 a4 (a1 + a4) 0 m hg
        · replace hg := (if_neg hc).symm.trans hg
          refine rf_seg C [(.iconst (-1), 1)] (pc' := 46) (S' := ([(0, .ref 251), (1, .int a1), (2, .long a2), (4, .int a4)], [.int ((-1)), .int (a1 + a4), .ref 251], rf_MM w m)) (by decide +kernel) rfl trivial ?_
          refine rf_goto C 4 50 (by decide +kernel) ?_
          refine rf_few [0, 1, 2, 3] rfl ?_
          exact s_X14_set__251_50 C hE hr3 a1 a2 a4 (a1 + a4) ((-1)) m hg
      · replace hg := (if_pos hc).symm.trans hg
        refine rf_seg C [(.lload 2, 1), (.iconst 32, 2), (.lshr, 1), (.l2i, 1)] (pc' := 36) (S' := ([(0, .ref 251), (1, .int a1), (2, .long a2), (4, .int a4)], [.int (Int64.toInt32 (a2 >>> (Int32.toInt64 32 &&& 63))), .int (a1 + a4), .ref 251], rf_MM w m)) (by decide +kernel) rfl trivial ?_
        refine rf_goto C 14 50 (by decide +kernel) ?_
        refine rf_few [0, 1, 2, 3] rfl ?_
        exact s_X14_set__251_50 C hE hr3 a1 a2 a4 (a1 + a4) (Int64.toInt32 (a2 >>> (Int32.toInt64 32 &&& 63))) m hg
    · replace hg := (if_pos hc).symm.trans hg
      refine rf_seg C [(.lload 2, 1), (.l2i, 1)] (pc' := 22) (S' := ([(0, .ref 251), (1, .int a1), (2, .long a2), (4, .int a4)], [.int (Int64.toInt32 a2), .int (a1 + a4), .ref 251], rf_MM w m)) (by decide +kernel) rfl trivial ?_
      refine rf_goto C 28 50 (by decide +kernel) ?_
      refine rf_few [0, 1, 2, 3] rfl ?_
      exact s_X14_set__251_50 C hE hr3 a1 a2 a4 (a1 + a4) (Int64.toInt32 a2) m hg
theorem s_X14_set__251_3 {w : rf_w} {K : rf_K} {r : rf_m} (C : rf_Ctx 14 cX14_set 5 1 (rf_sh w) K) (hE : rf_End none K (rf_sh w) 0 0 none (rf_MM w r)) (n : Nat) : ∀ (a1 : Int32) (a2 : Int64) (a4 : Int32) (m : rf_m), g_X14_set__251_3 w n a1 a2 a4 m = some r → rf_V 5 (rf_sh w) K 0 0 3 ([(0, .ref 251), (1, .int a1), (2, .long a2), (4, .int a4)], [], rf_MM w m) := by
  induction n with
  | zero => intro a1 a2 a4 m hg; cases hg
  | succ n ih => intro a1 a2 a4 m hg; exact s_X14_set__251_3_b C hE ih a1 a2 a4 m hg
theorem c_X14_set__251 {w : rf_w} {m : rf_m} {a1 : Int32} {a2 : Int64} {r : rf_m} (hg : g_X14_set__251 w m a1 a2 = some r) : rf_Con j_X14_set__251 1 (rf_sh w) [.ref 251, .int a1, .long a2] (rf_MM w m) none (rf_MM w r) := by
  refine rf_con j_X14_set__251 1 ⟨by decide +kernel, rfl, Nat.le_of_ble_eq_true rfl⟩ (fun K C hE => ?_)
  unfold g_X14_set__251 at hg
  show rf_V 5 (rf_sh w) K 0 0 0 ([(0, .ref 251), (1, .int a1), (2, .long a2)], [], rf_MM w m)
  refine rf_seg C [(.iconst 0, 1), (.istore 4, 2)] (pc' := 3) (S' := ([(4, .int 0), (0, .ref 251), (1, .int a1), (2, .long a2)], [], rf_MM w m)) (by decide +kernel) rfl trivial ?_
  refine rf_few [1, 2, 3, 0] rfl ?_
  exact s_X14_set__251_3 C hE rf_fuel a1 a2 0 m hg
-- X14_adds__249_251
abbrev j_X14_adds__249_251 : rf_J := (14, yX14_adds, cX14_adds, 7, none)
theorem mw_X14_adds__249_251 : rf_ms j_X14_adds__249_251 4 := ⟨⟨rf_mem 71 (by decide +kernel), rf_mem 0 (by decide +kernel), rf_mem 71 (by decide +kernel)⟩, by decide +kernel, by decide⟩
def g_X14_adds__249_251_6_b (w : rf_w) (rec6 : Int32 → Int32 → Int64 → Int32 → rf_m → Option (rf_m)) (a1 : Int32) (a3 : Int32) (a4 : Int64) (a6 : Int32) (m : rf_m) : Option (rf_m) := (if 6 ≤ a6 then some m else rf_g (rf_in (a1 + a6) 6) (rf_g (rf_in (a3 + a6) 6) (rf_vl (a4 + (((Int32.toInt64 (m.1 249 (Int32.toNatClampNeg (a1 + a6)))) &&& 4294967295) + ((Int32.toInt64 (m.1 251 (Int32.toNatClampNeg (a3 + a6)))) &&& 4294967295))) fun x2 => rf_g (rf_in (a1 + a6) 6) (rf_vl ((Int64.toUInt64 x2 >>> ((Int32.toInt64 32).toUInt64 &&& Int64.toUInt64 63)).toInt64) fun x4 => rec6 a1 a3 x4 (a6 + 1) (rf_i m 249 (Int32.toNatClampNeg (a1 + a6)) (Int64.toInt32 x2))))))
def g_X14_adds__249_251_6 (w : rf_w) : Nat → Int32 → Int32 → Int64 → Int32 → rf_m → Option (rf_m)
  | 0, _, _, _, _, _ => none
  | n + 1, a1, a3, a4, a6, m => g_X14_adds__249_251_6_b w (g_X14_adds__249_251_6 w n) a1 a3 a4 a6 m
def g_X14_adds__249_251 (w : rf_w) (m : rf_m) (a1 : Int32) (a3 : Int32) : Option (rf_m) := g_X14_adds__249_251_6 w rf_fuel a1 a3 0 0 m
theorem s_X14_adds__249_251_6_b {w : rf_w} {K : rf_K} {r : rf_m} (C : rf_Ctx 14 cX14_adds 7 1 (rf_sh w) K) (hE : rf_End none K (rf_sh w) 0 0 none (rf_MM w r)) {rec6 : Int32 → Int32 → Int64 → Int32 → rf_m → Option (rf_m)} (hr6 : ∀ (a1 : Int32) (a3 : Int32) (a4 : Int64) (a6 : Int32) (m : rf_m), rec6 a1 a3 a4 a6 m = some r → rf_V 7 (rf_sh w) K 0 0 6 ([(0, .ref 249), (1, .int a1), (2, .ref 251), (3, .int a3), (4, .long a4), (6, .int a6)], [], rf_MM w m)) (a1 : Int32) (a3 : Int32) (a4 : Int64) (a6 : Int32) (m : rf_m) (hg : g_X14_adds__249_251_6_b w rec6 a1 a3 a4 a6 m = some r) : rf_V 7 (rf_sh w) K 0 0 6 ([(0, .ref 249), (1, .int a1), (2, .ref 251), (3, .int a3), (4, .long a4), (6, .int a6)], [], rf_MM w m) := by
  unfold g_X14_adds__249_251_6_b at hg
  refine rf_seg C [(.iload 6, 2), (.iconst 6, 2)] (pc' := 10) (S' := ([(0, .ref 249), (1, .int a1), (2, .ref 251), (3, .int a3), (4, .long a4), (6, .int a6)], [.int 6, .int a6], rf_MM w m)) (by decide +kernel) rfl trivial ?_
  refine rf_icmp_ge C 53 63 (by decide +kernel) (fun hc => ?_) (fun hc => ?_)
  · replace hg := (if_pos hc).symm.trans hg
    obtain rfl := Option.some.inj hg
    exact rf_vret C hE (by decide +kernel)
  · replace hg := (if_neg hc).symm.trans hg
    obtain ⟨q0, hg⟩ := rf_g_some hg
    obtain ⟨q1, hg⟩ := rf_g_some hg
    refine rf_seg C [(.lload 4, 2), (.aload 0, 1), (.iload 1, 1), (.iload 6, 2), (.iadd, 1), (.iaload, 1), (.i2l, 1), (.goto_w 4294967295, 3), (.land, 1), (.aload 2, 1), (.iload 3, 1), (.iload 6, 2), (.iadd, 1), (.iaload, 1), (.i2l, 1), (.goto_w 4294967295, 3), (.land, 1), (.ladd, 1), (.ladd, 1)] (pc' := 39) (S' := ([(0, .ref 249), (1, .int a1), (2, .ref 251), (3, .int a3), (4, .long a4), (6, .int a6)], [.long (a4 + (((Int32.toInt64 (m.1 249 (Int32.toNatClampNeg (a1 + a6)))) &&& 4294967295) + ((Int32.toInt64 (m.1 251 (Int32.toNatClampNeg (a3 + a6)))) &&& 4294967295)))], rf_MM w m)) (by decide +kernel) rfl (by exact ⟨(rf_in_of q0), (rf_in_of q1)⟩) ?_
    obtain ⟨x2, hx2, hg⟩ := rf_vl_some hg
    refine rf_vl_top hx2 ?_
    obtain ⟨q3, hg⟩ := rf_g_some hg
    refine rf_seg C [(.lstore 4, 2), (.aload 0, 1), (.iload 1, 1), (.iload 6, 2), (.iadd, 1), (.lload 4, 2), (.l2i, 1), (.iastore, 1), (.lload 4, 2), (.iconst 32, 2), (.lushr, 1)] (pc' := 55) (S' := ([(4, .long x2), (0, .ref 249), (1, .int a1), (2, .ref 251), (3, .int a3), (6, .int a6)], [.long ((Int64.toUInt64 x2 >>> ((Int32.toInt64 32).toUInt64 &&& Int64.toUInt64 63)).toInt64)], rf_MM w (rf_i m 249 (Int32.toNatClampNeg (a1 + a6)) (Int64.toInt32 x2)))) (by decide +kernel) rfl (rf_in_of q3) ?_
    obtain ⟨x4, hx4, hg⟩ := rf_vl_some hg
    refine rf_vl_top hx4 ?_
    refine rf_seg C [(.lstore 4, 2), (.iinc 6 1, 3)] (pc' := 60) (S' := ([(6, .int (a6 + 1)), (4, .long x4), (0, .ref 249), (1, .int a1), (2, .ref 251), (3, .int a3)], [], rf_MM w (rf_i m 249 (Int32.toNatClampNeg (a1 + a6)) (Int64.toInt32 x2)))) (by decide +kernel) rfl trivial ?_
    refine rf_goto C (-54) 6 (by decide +kernel) ?_
    refine rf_few [2, 3, 4, 5, 1, 0] rfl ?_
    exact hr6 a1 a3 x4 (a6 + 1) (rf_i m 249 (Int32.toNatClampNeg (a1 + a6)) (Int64.toInt32 x2)) hg
theorem s_X14_adds__249_251_6 {w : rf_w} {K : rf_K} {r : rf_m} (C : rf_Ctx 14 cX14_adds 7 1 (rf_sh w) K) (hE : rf_End none K (rf_sh w) 0 0 none (rf_MM w r)) (n : Nat) : ∀ (a1 : Int32) (a3 : Int32) (a4 : Int64) (a6 : Int32) (m : rf_m), g_X14_adds__249_251_6 w n a1 a3 a4 a6 m = some r → rf_V 7 (rf_sh w) K 0 0 6 ([(0, .ref 249), (1, .int a1), (2, .ref 251), (3, .int a3), (4, .long a4), (6, .int a6)], [], rf_MM w m) := by
  induction n with
  | zero => intro a1 a3 a4 a6 m hg; cases hg
  | succ n ih => intro a1 a3 a4 a6 m hg; exact s_X14_adds__249_251_6_b C hE ih a1 a3 a4 a6 m hg
theorem c_X14_adds__249_251 {w : rf_w} {m : rf_m} {a1 : Int32} {a3 : Int32} {r : rf_m} (hg : g_X14_adds__249_251 w m a1 a3 = some r) : rf_Con j_X14_adds__249_251 1 (rf_sh w) [.ref 249, .int a1, .ref 251, .int a3] (rf_MM w m) none (rf_MM w r) := by
  refine rf_con j_X14_adds__249_251 1 ⟨by decide +kernel, rfl, Nat.le_of_ble_eq_true rfl⟩ (fun K C hE => ?_)
  unfold g_X14_adds__249_251 at hg
  show rf_V 7 (rf_sh w) K 0 0 0 ([(0, .ref 249), (1, .int a1), (2, .ref 251), (3, .int a3)], [], rf_MM w m)
  refine rf_seg C [(.goto_w 0, 1), (.lstore 4, 2), (.iconst 0, 1), (.istore 6, 2)] (pc' := 6) (S' := ([(6, .int 0), (4, .long 0), (0, .ref 249), (1, .int a1), (2, .ref 251), (3, .int a3)], [], rf_MM w m)) (by decide +kernel) rfl trivial ?_
  refine rf_few [2, 3, 4, 5, 1, 0] rfl ?_
  exact s_X14_adds__249_251_6 C hE rf_fuel a1 a3 0 0 m hg
-- X14_isBelow__252
abbrev j_X14_isBelow__252 : rf_J := (14, yX14_isBelow, cX14_isBelow, 2, (some .boolean))
theorem mw_X14_isBelow__252 : rf_ms j_X14_isBelow__252 2 := ⟨⟨rf_mem 72 (by decide +kernel), rf_mem 0 (by decide +kernel), rf_mem 72 (by decide +kernel)⟩, by decide +kernel, by decide⟩
def g_X14_isBelow__252 (w : rf_w) (m : rf_m) (a1 : Int32) : Option (Int32 × rf_m) := rf_g (rf_in ((a1 + 6) - 1) 6) ((if (0 : Int32) ≤ (m.1 252 (Int32.toNatClampNeg ((a1 + 6) - 1))) then some (0, m) else some (1, m)))
theorem c_X14_isBelow__252 {w : rf_w} {m : rf_m} {a1 : Int32} {r : Int32 × rf_m} (hg : g_X14_isBelow__252 w m a1 = some r) : rf_Con j_X14_isBelow__252 1 (rf_sh w) [.ref 252, .int a1] (rf_MM w m) (some (.int r.1)) (rf_MM w r.2) := by
  refine rf_con j_X14_isBelow__252 1 ⟨by decide +kernel, rfl, Nat.le_of_ble_eq_true rfl⟩ (fun K C hE => ?_)
  unfold g_X14_isBelow__252 at hg
  show rf_V 2 (rf_sh w) K 0 0 0 ([(0, .ref 252), (1, .int a1)], [], rf_MM w m)
  obtain ⟨q0, hg⟩ := rf_g_some hg
  refine rf_seg C [(.aload 0, 1), (.iload 1, 1), (.iconst 6, 2), (.iadd, 1), (.iconst 1, 1), (.isub, 1), (.iaload, 1)] (pc' := 8) (S' := ([(0, .ref 252), (1, .int a1)], [.int (m.1 252 (Int32.toNatClampNeg ((a1 + 6) - 1)))], rf_MM w m)) (by decide +kernel) rfl (rf_in_of q0) ?_
  refine rf_if_ge C 7 15 (by decide +kernel) (fun hc => ?_) (fun hc => ?_)
  · replace hg := (if_pos hc).symm.trans hg
    refine rf_seg C [(.iconst 0, 1)] (pc' := 16) (S' := ([(0, .ref 252), (1, .int a1)], [.int 0], rf_MM w m)) (by decide +kernel) rfl trivial ?_
    obtain rfl := Option.some.inj hg
    exact rf_zret C hE (by decide) (by decide +kernel)
  · replace hg := (if_neg hc).symm.trans hg
    refine rf_seg C [(.iconst 1, 1)] (pc' := 12) (S' := ([(0, .ref 252), (1, .int a1)], [.int 1], rf_MM w m)) (by decide +kernel) rfl trivial ?_
    refine rf_goto C 4 16 (by decide +kernel) ?_
    obtain rfl := Option.some.inj hg
    exact rf_zret C hE (by decide) (by decide +kernel)
-- X14_turns__252
abbrev j_X14_turns__252 : rf_J := (14, yX14_turns, cX14_turns, 5, none)
theorem mw_X14_turns__252 : rf_ms j_X14_turns__252 2 := ⟨⟨rf_mem 71 (by decide +kernel), rf_mem 0 (by decide +kernel), rf_mem 71 (by decide +kernel)⟩, by decide +kernel, by decide⟩
def g_X14_turns__252_5_b (w : rf_w) (rec5 : Int32 → Int64 → Int32 → rf_m → Option (rf_m)) (a1 : Int32) (a2 : Int64) (a4 : Int32) (m : rf_m) : Option (rf_m) := (if 6 ≤ a4 then some m else rf_g (rf_in (a1 + a4) 6) (rf_vl (a2 + ((Int32.toInt64 ((m.1 252 (Int32.toNatClampNeg (a1 + a4))) ^^^ ((-1)))) &&& 4294967295)) fun x1 => rf_g (rf_in (a1 + a4) 6) (rf_vl ((Int64.toUInt64 x1 >>> ((Int32.toInt64 32).toUInt64 &&& Int64.toUInt64 63)).toInt64) fun x3 => rec5 a1 x3 (a4 + 1) (rf_i m 252 (Int32.toNatClampNeg (a1 + a4)) (Int64.toInt32 x1)))))
def g_X14_turns__252_5 (w : rf_w) : Nat → Int32 → Int64 → Int32 → rf_m → Option (rf_m)
  | 0, _, _, _, _ => none
  | n + 1, a1, a2, a4, m => g_X14_turns__252_5_b w (g_X14_turns__252_5 w n) a1 a2 a4 m
def g_X14_turns__252 (w : rf_w) (m : rf_m) (a1 : Int32) : Option (rf_m) := g_X14_turns__252_5 w rf_fuel a1 1 0 m
theorem s_X14_turns__252_5_b {w : rf_w} {K : rf_K} {r : rf_m} (C : rf_Ctx 14 cX14_turns 5 1 (rf_sh w) K) (hE : rf_End none K (rf_sh w) 0 0 none (rf_MM w r)) {rec5 : Int32 → Int64 → Int32 → rf_m → Option (rf_m)} (hr5 : ∀ (a1 : Int32) (a2 : Int64) (a4 : Int32) (m : rf_m), rec5 a1 a2 a4 m = some r → rf_V 5 (rf_sh w) K 0 0 5 ([(0, .ref 252), (1, .int a1), (2, .long a2), (4, .int a4)], [], rf_MM w m)) (a1 : Int32) (a2 : Int64) (a4 : Int32) (m : rf_m) (hg : g_X14_turns__252_5_b w rec5 a1 a2 a4 m = some r) : rf_V 5 (rf_sh w) K 0 0 5 ([(0, .ref 252), (1, .int a1), (2, .long a2), (4, .int a4)], [], rf_MM w m) := by
  unfold g_X14_turns__252_5_b at hg
  refine rf_seg C [(.iload 4, 2), (.iconst 6, 2)] (pc' := 9) (S' := ([(0, .ref 252), (1, .int a1), (2, .long a2), (4, .int a4)], [.int 6, .int a4], rf_MM w m)) (by decide +kernel) rfl trivial ?_
  refine rf_icmp_ge C 38 47 (by decide +kernel) (fun hc => ?_) (fun hc => ?_)
  · replace hg := (if_pos hc).symm.trans hg
    obtain rfl := Option.some.inj hg
    exact rf_vret C hE (by decide +kernel)
  · replace hg := (if_neg hc).symm.trans hg
    obtain ⟨q0, hg⟩ := rf_g_some hg
    refine rf_seg C [(.lload 2, 1), (.aload 0, 1), (.iload 1, 1), (.iload 4, 2), (.iadd, 1), (.iaload, 1), (.iconst (-1), 1), (.ixor, 1), (.i2l, 1), (.goto_w 4294967295, 3), (.land, 1), (.ladd, 1)] (pc' := 27) (S' := ([(0, .ref 252), (1, .int a1), (2, .long a2), (4, .int a4)], [.long (a2 + ((Int32.toInt64 ((m.1 252 (Int32.toNatClampNeg (a1 + a4))) ^^^ ((-1)))) &&& 4294967295))], rf_MM w m)) (by decide +kernel) rfl (rf_in_of q0) ?_
    obtain ⟨x1, hx1, hg⟩ := rf_vl_some hg
    refine rf_vl_top hx1 ?_
    obtain ⟨q2, hg⟩ := rf_g_some hg
    refine rf_seg C [(.lstore 2, 1), (.aload 0, 1), (.iload 1, 1), (.iload 4, 2), (.iadd, 1), (.lload 2, 1), (.l2i, 1), (.iastore, 1), (.lload 2, 1), (.iconst 32, 2), (.lushr, 1)] (pc' := 40) (S' := ([(2, .long x1), (0, .ref 252), (1, .int a1), (4, .int a4)], [.long ((Int64.toUInt64 x1 >>> ((Int32.toInt64 32).toUInt64 &&& Int64.toUInt64 63)).toInt64)], rf_MM w (rf_i m 252 (Int32.toNatClampNeg (a1 + a4)) (Int64.toInt32 x1)))) (by decide +kernel) rfl (rf_in_of q2) ?_
    obtain ⟨x3, hx3, hg⟩ := rf_vl_some hg
    refine rf_vl_top hx3 ?_
    refine rf_seg C [(.lstore 2, 1), (.iinc 4 1, 3)] (pc' := 44) (S' := ([(4, .int (a4 + 1)), (2, .long x3), (0, .ref 252), (1, .int a1)], [], rf_MM w (rf_i m 252 (Int32.toNatClampNeg (a1 + a4)) (Int64.toInt32 x1)))) (by decide +kernel) rfl trivial ?_
    refine rf_goto C (-39) 5 (by decide +kernel) ?_
    refine rf_few [2, 3, 1, 0] rfl ?_
    exact hr5 a1 x3 (a4 + 1) (rf_i m 252 (Int32.toNatClampNeg (a1 + a4)) (Int64.toInt32 x1)) hg
theorem s_X14_turns__252_5 {w : rf_w} {K : rf_K} {r : rf_m} (C : rf_Ctx 14 cX14_turns 5 1 (rf_sh w) K) (hE : rf_End none K (rf_sh w) 0 0 none (rf_MM w r)) (n : Nat) : ∀ (a1 : Int32) (a2 : Int64) (a4 : Int32) (m : rf_m), g_X14_turns__252_5 w n a1 a2 a4 m = some r → rf_V 5 (rf_sh w) K 0 0 5 ([(0, .ref 252), (1, .int a1), (2, .long a2), (4, .int a4)], [], rf_MM w m) := by
  induction n with
  | zero => intro a1 a2 a4 m hg; cases hg
  | succ n ih => intro a1 a2 a4 m hg; exact s_X14_turns__252_5_b C hE ih a1 a2 a4 m hg
theorem c_X14_turns__252 {w : rf_w} {m : rf_m} {a1 : Int32} {r : rf_m} (hg : g_X14_turns__252 w m a1 = some r) : rf_Con j_X14_turns__252 1 (rf_sh w) [.ref 252, .int a1] (rf_MM w m) none (rf_MM w r) := by
  refine rf_con j_X14_turns__252 1 ⟨by decide +kernel, rfl, Nat.le_of_ble_eq_true rfl⟩ (fun K C hE => ?_)
  unfold g_X14_turns__252 at hg
  show rf_V 5 (rf_sh w) K 0 0 0 ([(0, .ref 252), (1, .int a1)], [], rf_MM w m)
  refine rf_seg C [(.goto_w 1, 1), (.lstore 2, 1), (.iconst 0, 1), (.istore 4, 2)] (pc' := 5) (S' := ([(4, .int 0), (2, .long 1), (0, .ref 252), (1, .int a1)], [], rf_MM w m)) (by decide +kernel) rfl trivial ?_
  refine rf_few [2, 3, 1, 0] rfl ?_
  exact s_X14_turns__252_5 C hE rf_fuel a1 1 0 m hg
-- X14_floors
abbrev j_X14_floors : rf_J := (14, yX14_floors, cX14_floors, 3, none)
theorem mw_X14_floors : rf_mv j_X14_floors (rf_R 14) 0 := ⟨⟨rf_mem 72 (by decide +kernel), rf_mem 72 (by decide +kernel), rf_mem 0 (by decide +kernel), rf_mem 72 (by decide +kernel)⟩, by decide +kernel, by decide⟩
def g_X14_floors_21 (w : rf_w) (a1 : Int32) (m : rf_m) : Option (rf_m) := rf_bv (g_X14_divides__252_253 w m 0 0) fun m0 => (if a1 = 0 then some m0 else rf_b (g_X14_isZero__250 w m0 0) fun y1 m1 => rf_bv (g_X14_turns__249 w m1 0) fun m2 => (if y1 = 0 then rf_bv (g_X14_set__251 w m2 0 ((-1))) fun m3 => rf_bv (g_X14_adds__249_251 w m3 0 0) fun m4 => some m4 else some m2))
def g_X14_floors (w : rf_w) (m : rf_m) : Option (rf_m) := rf_b (g_X14_isBelow__252 w m 0) fun y0 m0 => (if y0 = 0 then g_X14_floors_21 w y0 m0 else rf_bv (g_X14_turns__252 w m0 0) fun m1 => g_X14_floors_21 w y0 m1)
theorem s_X14_floors_21 {w : rf_w} {K : rf_K} {r : rf_m} (C : rf_Ctx 14 cX14_floors 3 3 (rf_sh w) K) (hE : rf_End none K (rf_sh w) 0 0 none (rf_MM w r)) (a1 : Int32) (m : rf_m) (hg : g_X14_floors_21 w a1 m = some r) : rf_V 3 (rf_sh w) K 0 0 21 ([(0, .ref 206), (1, .int a1)], [], rf_MM w m) := by
  unfold g_X14_floors_21 at hg
  refine rf_seg C [(.aload 0, 1), (.aload 0, 1), (.invokeinterface 14 75, 3), (.iconst 0, 1), (.aload 0, 1), (.invokeinterface 14 76, 3), (.iconst 0, 1)] (pc' := 32) (S' := ([(0, .ref 206), (1, .int a1)], [.int 0, .ref 253, .int 0, .ref 252, .ref 206], rf_MM w m)) (by decide +kernel) rfl trivial ?_
  obtain ⟨m0, hc0, hg⟩ := rf_bv_some hg
  refine rf_callv C rf_fit0 j_X14_divides__252_253 (ci := 14) (As := [.ref 252, .int 0, .ref 253, .int 0]) (rest := []) mw_X14_divides__252_253 (c_X14_divides__252_253 hc0) (by decide) rfl (by decide) lk_14_759 rfl rfl (Nat.le_of_ble_eq_true rfl) (by decide +kernel) ?_
  show rf_V 3 (rf_sh w) K 0 0 35 ([(0, .ref 206), (1, .int a1)], [], rf_MM w m0)
  refine rf_seg C [(.iload 1, 1)] (pc' := 36) (S' := ([(0, .ref 206), (1, .int a1)], [.int a1], rf_MM w m0)) (by decide +kernel) rfl trivial ?_
  refine rf_if_ne C 4 40 (by decide +kernel) (fun hc => ?_) (fun hc => ?_)
  · replace hg := (if_neg hc).symm.trans hg
    refine rf_seg C [(.aload 0, 1), (.invokeinterface 14 73, 3), (.iconst 0, 1)] (pc' := 45) (S' := ([(0, .ref 206), (1, .int a1)], [.int 0, .ref 250], rf_MM w m0)) (by decide +kernel) rfl trivial ?_
    obtain ⟨y1, m1, hc1, hg⟩ := rf_b_some hg
    refine rf_calls C rf_fit0 j_X14_isZero__250 (As := [.ref 250, .int 0]) (rest := []) mw_X14_isZero__250 (c_X14_isZero__250 hc1) (by decide) lk_14_762 rfl rfl (Nat.le_of_ble_eq_true rfl) (by decide +kernel) ?_
    show rf_V 3 (rf_sh w) K 0 0 48 ([(0, .ref 206), (1, .int a1)], [.int y1], rf_MM w m1)
    refine rf_seg C [(.istore 2, 1), (.aload 0, 1), (.invokeinterface 14 72, 3), (.iconst 0, 1)] (pc' := 54) (S' := ([(2, .int y1), (0, .ref 206), (1, .int a1)], [.int 0, .ref 249], rf_MM w m1)) (by decide +kernel) rfl trivial ?_
    obtain ⟨m2, hc2, hg⟩ := rf_bv_some hg
    refine rf_calls C rf_fit0 j_X14_turns__249 (As := [.ref 249, .int 0]) (rest := []) mw_X14_turns__249 (c_X14_turns__249 hc2) (by decide) lk_14_736 rfl rfl (Nat.le_of_ble_eq_true rfl) (by decide +kernel) ?_
    show rf_V 3 (rf_sh w) K 0 0 57 ([(2, .int y1), (0, .ref 206), (1, .int a1)], [], rf_MM w m2)
    refine rf_seg C [(.iload 2, 1)] (pc' := 58) (S' := ([(2, .int y1), (0, .ref 206), (1, .int a1)], [.int y1], rf_MM w m2)) (by decide +kernel) rfl trivial ?_
    refine rf_if_eq C 4 62 (by decide +kernel) (fun hc => ?_) (fun hc => ?_)
    · replace hg := (if_pos hc).symm.trans hg
      refine rf_seg C [(.aload 0, 1), (.invokeinterface 14 74, 3), (.iconst 0, 1), (.goto_w (-1), 3)] (pc' := 70) (S' := ([(2, .int y1), (0, .ref 206), (1, .int a1)], [.long ((-1)), .int 0, .ref 251], rf_MM w m2)) (by decide +kernel) rfl trivial ?_
      obtain ⟨m3, hc3, hg⟩ := rf_bv_some hg
      refine rf_calls C rf_fit0 j_X14_set__251 (As := [.ref 251, .int 0, .long ((-1))]) (rest := []) mw_X14_set__251 (c_X14_set__251 hc3) (by decide) lk_14_740 rfl rfl (Nat.le_of_ble_eq_true rfl) (by decide +kernel) ?_
      show rf_V 3 (rf_sh w) K 0 0 73 ([(2, .int y1), (0, .ref 206), (1, .int a1)], [], rf_MM w m3)
      refine rf_seg C [(.aload 0, 1), (.invokeinterface 14 72, 3), (.iconst 0, 1), (.aload 0, 1), (.invokeinterface 14 74, 3), (.iconst 0, 1)] (pc' := 83) (S' := ([(2, .int y1), (0, .ref 206), (1, .int a1)], [.int 0, .ref 251, .int 0, .ref 249], rf_MM w m3)) (by decide +kernel) rfl trivial ?_
      obtain ⟨m4, hc4, hg⟩ := rf_bv_some hg
      refine rf_calls C rf_fit0 j_X14_adds__249_251 (As := [.ref 249, .int 0, .ref 251, .int 0]) (rest := []) mw_X14_adds__249_251 (c_X14_adds__249_251 hc4) (by decide) lk_14_748 rfl rfl (Nat.le_of_ble_eq_true rfl) (by decide +kernel) ?_
      show rf_V 3 (rf_sh w) K 0 0 86 ([(2, .int y1), (0, .ref 206), (1, .int a1)], [], rf_MM w m4)
      obtain rfl := Option.some.inj hg
      exact rf_vret C hE (by decide +kernel)
    · replace hg := (if_neg hc).symm.trans hg
      obtain rfl := Option.some.inj hg
      exact rf_vret C hE (by decide +kernel)
  · replace hg := (if_pos hc).symm.trans hg
    obtain rfl := Option.some.inj hg
    exact rf_vret C hE (by decide +kernel)
theorem c_X14_floors {w : rf_w} {m : rf_m} {r : rf_m} (hg : g_X14_floors w m = some r) : rf_Con j_X14_floors 3 (rf_sh w) [.ref 206] (rf_MM w m) none (rf_MM w r) := by
  refine rf_con j_X14_floors 3 ⟨by decide +kernel, rfl, Nat.le_of_ble_eq_true rfl⟩ (fun K C hE => ?_)
  unfold g_X14_floors at hg
  show rf_V 3 (rf_sh w) K 0 0 0 ([(0, .ref 206)], [], rf_MM w m)
  refine rf_seg C [(.aload 0, 1), (.invokeinterface 14 75, 3), (.iconst 0, 1)] (pc' := 5) (S' := ([(0, .ref 206)], [.int 0, .ref 252], rf_MM w m)) (by decide +kernel) rfl trivial ?_
  obtain ⟨y0, m0, hc0, hg⟩ := rf_b_some hg
  refine rf_calls C rf_fit0 j_X14_isBelow__252 (As := [.ref 252, .int 0]) (rest := []) mw_X14_isBelow__252 (c_X14_isBelow__252 hc0) (by decide) lk_14_755 rfl rfl (Nat.le_of_ble_eq_true rfl) (by decide +kernel) ?_
  show rf_V 3 (rf_sh w) K 0 0 8 ([(0, .ref 206)], [.int y0], rf_MM w m0)
  refine rf_seg C [(.istore 1, 1), (.iload 1, 1)] (pc' := 10) (S' := ([(1, .int y0), (0, .ref 206)], [.int y0], rf_MM w m0)) (by decide +kernel) rfl trivial ?_
  refine rf_if_eq C 11 21 (by decide +kernel) (fun hc => ?_) (fun hc => ?_)
  · replace hg := (if_pos hc).symm.trans hg
    refine rf_few [1, 0] rfl ?_
    exact s_X14_floors_21 C hE y0 m0 hg
  · replace hg := (if_neg hc).symm.trans hg
    refine rf_seg C [(.aload 0, 1), (.invokeinterface 14 75, 3), (.iconst 0, 1)] (pc' := 18) (S' := ([(1, .int y0), (0, .ref 206)], [.int 0, .ref 252], rf_MM w m0)) (by decide +kernel) rfl trivial ?_
    obtain ⟨m1, hc1, hg⟩ := rf_bv_some hg
    refine rf_calls C rf_fit0 j_X14_turns__252 (As := [.ref 252, .int 0]) (rest := []) mw_X14_turns__252 (c_X14_turns__252 hc1) (by decide) lk_14_736 rfl rfl (Nat.le_of_ble_eq_true rfl) (by decide +kernel) ?_
    show rf_V 3 (rf_sh w) K 0 0 21 ([(1, .int y0), (0, .ref 206)], [], rf_MM w m1)
    refine rf_few [1, 0] rfl ?_
    exact s_X14_floors_21 C hE y0 m1 hg
-- X14_quotientLong
abbrev j_X14_quotientLong : rf_J := (14, yX14_quotientLong, cX14_quotientLong, 1, (some .long))
theorem mw_X14_quotientLong : rf_mv j_X14_quotientLong (rf_R 14) 0 := ⟨⟨rf_mem 72 (by decide +kernel), rf_mem 72 (by decide +kernel), rf_mem 0 (by decide +kernel), rf_mem 73 (by decide +kernel)⟩, by decide +kernel, by decide⟩
def g_X14_quotientLong (w : rf_w) (m : rf_m) : Option (Int64 × rf_m) := some (((Int32.toInt64 (m.1 249 (Int32.toNatClampNeg 1))) <<< (Int32.toInt64 32 &&& 63)) ||| ((Int32.toInt64 (m.1 249 (Int32.toNatClampNeg 0))) &&& 4294967295), m)
theorem c_X14_quotientLong {w : rf_w} {m : rf_m} {r : Int64 × rf_m} (hg : g_X14_quotientLong w m = some r) : rf_Con j_X14_quotientLong 1 (rf_sh w) [.ref 206] (rf_MM w m) (some (.long r.1)) (rf_MM w r.2) := by
  refine rf_con j_X14_quotientLong 1 ⟨by decide +kernel, rfl, Nat.le_of_ble_eq_true rfl⟩ (fun K C hE => ?_)
  unfold g_X14_quotientLong at hg
  show rf_V 1 (rf_sh w) K 0 0 0 ([(0, .ref 206)], [], rf_MM w m)
  refine rf_seg C [(.aload 0, 1), (.invokeinterface 14 72, 3), (.iconst 1, 1), (.iaload, 1), (.i2l, 1), (.iconst 32, 2), (.lshl, 1), (.aload 0, 1), (.invokeinterface 14 72, 3), (.iconst 0, 1), (.iaload, 1), (.i2l, 1), (.goto_w 4294967295, 3), (.land, 1), (.lor, 1)] (pc' := 22) (S' := ([(0, .ref 206)], [.long (((Int32.toInt64 (m.1 249 (Int32.toNatClampNeg 1))) <<< (Int32.toInt64 32 &&& 63)) ||| ((Int32.toInt64 (m.1 249 (Int32.toNatClampNeg 0))) &&& 4294967295))], rf_MM w m)) (by decide +kernel) rfl (by exact ⟨(rf_in_of (by decide)), (rf_in_of (by decide))⟩) ?_
  obtain rfl := Option.some.inj hg
  exact rf_lret C hE (by decide +kernel)
-- X14_isLong
abbrev j_X14_isLong : rf_J := (14, yX14_isLong, cX14_isLong, 4, (some .boolean))
theorem mw_X14_isLong : rf_mv j_X14_isLong (rf_R 14) 0 := ⟨⟨rf_mem 72 (by decide +kernel), rf_mem 72 (by decide +kernel), rf_mem 0 (by decide +kernel), rf_mem 72 (by decide +kernel)⟩, by decide +kernel, by decide⟩
def g_X14_isLong_44 (w : rf_w) (rec19 : Int32 → Int32 → Int32 → rf_m → Option (Int32 × rf_m)) (a2 : Int32) (a3 : Int32) (s0 : Int32) (m : rf_m) : Option (Int32 × rf_m) := rec19 s0 a2 (a3 + 1) m
def g_X14_isLong_43 (w : rf_w) (rec19 : Int32 → Int32 → Int32 → rf_m → Option (Int32 × rf_m)) (a2 : Int32) (a3 : Int32) (m : rf_m) : Option (Int32 × rf_m) := g_X14_isLong_44 w rec19 a2 a3 0 m
def g_X14_isLong_19_b (w : rf_w) (rec19 : Int32 → Int32 → Int32 → rf_m → Option (Int32 × rf_m)) (a1 : Int32) (a2 : Int32) (a3 : Int32) (m : rf_m) : Option (Int32 × rf_m) := (if 6 ≤ a3 then rf_g (rf_01 a1) (some (a1, m)) else (if a1 = 0 then g_X14_isLong_43 w rec19 a2 a3 m else rf_g (rf_in a3 6) ((if (m.1 249 (Int32.toNatClampNeg a3)) = a2 then g_X14_isLong_44 w rec19 a2 a3 1 m else g_X14_isLong_43 w rec19 a2 a3 m))))
def g_X14_isLong_19 (w : rf_w) : Nat → Int32 → Int32 → Int32 → rf_m → Option (Int32 × rf_m)
  | 0, _, _, _, _ => none
  | n + 1, a1, a2, a3, m => g_X14_isLong_19_b w (g_X14_isLong_19 w n) a1 a2 a3 m
def g_X14_isLong_16 (w : rf_w) (a1 : Int32) (s0 : Int32) (m : rf_m) : Option (Int32 × rf_m) := g_X14_isLong_19 w rf_fuel a1 s0 2 m
def g_X14_isLong (w : rf_w) (m : rf_m) : Option (Int32 × rf_m) := (if (0 : Int32) ≤ (m.1 249 (Int32.toNatClampNeg 1)) then g_X14_isLong_16 w 1 0 m else g_X14_isLong_16 w 1 ((-1)) m)
theorem s_X14_isLong_44 {w : rf_w} {K : rf_K} {r : Int32 × rf_m} (C : rf_Ctx 14 cX14_isLong 4 1 (rf_sh w) K) (hE : rf_End (some .boolean) K (rf_sh w) 0 0 (some (.int r.1)) (rf_MM w r.2)) {rec19 : Int32 → Int32 → Int32 → rf_m → Option (Int32 × rf_m)} (hr19 : ∀ (a1 : Int32) (a2 : Int32) (a3 : Int32) (m : rf_m), rec19 a1 a2 a3 m = some r → rf_V 4 (rf_sh w) K 0 0 19 ([(0, .ref 206), (1, .int a1), (2, .int a2), (3, .int a3)], [], rf_MM w m)) (a2 : Int32) (a3 : Int32) (s0 : Int32) (m : rf_m) (hg : g_X14_isLong_44 w rec19 a2 a3 s0 m = some r) : rf_V 4 (rf_sh w) K 0 0 44 ([(0, .ref 206), (2, .int a2), (3, .int a3)], [.int s0], rf_MM w m) := by
  unfold g_X14_isLong_44 at hg
  refine rf_seg C [(.istore 1, 1), (.iinc 3 1, 3)] (pc' := 48) (S' := ([(3, .int (a3 + 1)), (1, .int s0), (0, .ref 206), (2, .int a2)], [], rf_MM w m)) (by decide +kernel) rfl trivial ?_
  refine rf_goto C (-29) 19 (by decide +kernel) ?_
  refine rf_few [2, 1, 3, 0] rfl ?_
  exact hr19 s0 a2 (a3 + 1) m hg
theorem s_X14_isLong_43 {w : rf_w} {K : rf_K} {r : Int32 × rf_m} (C : rf_Ctx 14 cX14_isLong 4 1 (rf_sh w) K) (hE : rf_End (some .boolean) K (rf_sh w) 0 0 (some (.int r.1)) (rf_MM w r.2)) {rec19 : Int32 → Int32 → Int32 → rf_m → Option (Int32 × rf_m)} (hr19 : ∀ (a1 : Int32) (a2 : Int32) (a3 : Int32) (m : rf_m), rec19 a1 a2 a3 m = some r → rf_V 4 (rf_sh w) K 0 0 19 ([(0, .ref 206), (1, .int a1), (2, .int a2), (3, .int a3)], [], rf_MM w m)) (a2 : Int32) (a3 : Int32) (m : rf_m) (hg : g_X14_isLong_43 w rec19 a2 a3 m = some r) : rf_V 4 (rf_sh w) K 0 0 43 ([(0, .ref 206), (2, .int a2), (3, .int a3)], [], rf_MM w m) := by
  unfold g_X14_isLong_43 at hg
  refine rf_seg C [(.iconst 0, 1)] (pc' := 44) (S' := ([(0, .ref 206), (2, .int a2), (3, .int a3)], [.int 0], rf_MM w m)) (by decide +kernel) rfl trivial ?_
  refine rf_few [0, 1, 2] rfl ?_
  exact s_X14_isLong_44 C hE hr19 a2 a3 0 m hg
theorem s_X14_isLong_19_b {w : rf_w} {K : rf_K} {r : Int32 × rf_m} (C : rf_Ctx 14 cX14_isLong 4 1 (rf_sh w) K) (hE : rf_End (some .boolean) K (rf_sh w) 0 0 (some (.int r.1)) (rf_MM w r.2)) {rec19 : Int32 → Int32 → Int32 → rf_m → Option (Int32 × rf_m)} (hr19 : ∀ (a1 : Int32) (a2 : Int32) (a3 : Int32) (m : rf_m), rec19 a1 a2 a3 m = some r → rf_V 4 (rf_sh w) K 0 0 19 ([(0, .ref 206), (1, .int a1), (2, .int a2), (3, .int a3)], [], rf_MM w m)) (a1 : Int32) (a2 : Int32) (a3 : Int32) (m : rf_m) (hg : g_X14_isLong_19_b w rec19 a1 a2 a3 m = some r) : rf_V 4 (rf_sh w) K 0 0 19 ([(0, .ref 206), (1, .int a1), (2, .int a2), (3, .int a3)], [], rf_MM w m) := by
  unfold g_X14_isLong_19_b at hg
  refine rf_seg C [(.iload 3, 1), (.iconst 6, 2)] (pc' := 22) (S' := ([(0, .ref 206), (1, .int a1), (2, .int a2), (3, .int a3)], [.int 6, .int a3], rf_MM w m)) (by decide +kernel) rfl trivial ?_
  refine rf_icmp_ge C 29 51 (by decide +kernel) (fun hc => ?_) (fun hc => ?_)
  · replace hg := (if_pos hc).symm.trans hg
    refine rf_seg C [(.iload 1, 1)] (pc' := 52) (S' := ([(0, .ref 206), (1, .int a1), (2, .int a2), (3, .int a3)], [.int a1], rf_MM w m)) (by decide +kernel) rfl trivial ?_
    obtain ⟨q01, hg⟩ := rf_g_some hg
    obtain rfl := Option.some.inj hg
    exact rf_zret C hE (rf_01_of q01) (by decide +kernel)
  · replace hg := (if_neg hc).symm.trans hg
    refine rf_seg C [(.iload 1, 1)] (pc' := 26) (S' := ([(0, .ref 206), (1, .int a1), (2, .int a2), (3, .int a3)], [.int a1], rf_MM w m)) (by decide +kernel) rfl trivial ?_
    refine rf_if_eq C 17 43 (by decide +kernel) (fun hc => ?_) (fun hc => ?_)
    · replace hg := (if_pos hc).symm.trans hg
      refine rf_few [0, 2, 3] rfl ?_
      exact s_X14_isLong_43 C hE hr19 a2 a3 m hg
    · replace hg := (if_neg hc).symm.trans hg
      obtain ⟨q0, hg⟩ := rf_g_some hg
      refine rf_seg C [(.aload 0, 1), (.invokeinterface 14 72, 3), (.iload 3, 1), (.iaload, 1), (.iload 2, 1)] (pc' := 36) (S' := ([(0, .ref 206), (1, .int a1), (2, .int a2), (3, .int a3)], [.int a2, .int (m.1 249 (Int32.toNatClampNeg a3))], rf_MM w m)) (by decide +kernel) rfl (rf_in_of q0) ?_
      refine rf_icmp_ne C 7 43 (by decide +kernel) (fun hc => ?_) (fun hc => ?_)
      · replace hg := (if_neg hc).symm.trans hg
        refine rf_few [0, 2, 3] rfl ?_
        exact s_X14_isLong_43 C hE hr19 a2 a3 m hg
      · replace hg := (if_pos hc).symm.trans hg
        refine rf_seg C [(.iconst 1, 1)] (pc' := 40) (S' := ([(0, .ref 206), (1, .int a1), (2, .int a2), (3, .int a3)], [.int 1], rf_MM w m)) (by decide +kernel) rfl trivial ?_
        refine rf_goto C 4 44 (by decide +kernel) ?_
        refine rf_few [0, 2, 3] rfl ?_
        exact s_X14_isLong_44 C hE hr19 a2 a3 1 m hg
theorem s_X14_isLong_19 {w : rf_w} {K : rf_K} {r : Int32 × rf_m} (C : rf_Ctx 14 cX14_isLong 4 1 (rf_sh w) K) (hE : rf_End (some .boolean) K (rf_sh w) 0 0 (some (.int r.1)) (rf_MM w r.2)) (n : Nat) : ∀ (a1 : Int32) (a2 : Int32) (a3 : Int32) (m : rf_m), g_X14_isLong_19 w n a1 a2 a3 m = some r → rf_V 4 (rf_sh w) K 0 0 19 ([(0, .ref 206), (1, .int a1), (2, .int a2), (3, .int a3)], [], rf_MM w m) := by
  induction n with
  | zero => intro a1 a2 a3 m hg; cases hg
  | succ n ih => intro a1 a2 a3 m hg; exact s_X14_isLong_19_b C hE ih a1 a2 a3 m hg
theorem s_X14_isLong_16 {w : rf_w} {K : rf_K} {r : Int32 × rf_m} (C : rf_Ctx 14 cX14_isLong 4 1 (rf_sh w) K) (hE : rf_End (some .boolean) K (rf_sh w) 0 0 (some (.int r.1)) (rf_MM w r.2)) (a1 : Int32) (s0 : Int32) (m : rf_m) (hg : g_X14_isLong_16 w a1 s0 m = some r) : rf_V 4 (rf_sh w) K 0 0 16 ([(0, .ref 206), (1, .int a1)], [.int s0], rf_MM w m) := by
  unfold g_X14_isLong_16 at hg
  refine rf_seg C [(.istore 2, 1), (.iconst 2, 1), (.istore 3, 1)] (pc' := 19) (S' := ([(3, .int 2), (2, .int s0), (0, .ref 206), (1, .int a1)], [], rf_MM w m)) (by decide +kernel) rfl trivial ?_
  refine rf_few [2, 3, 1, 0] rfl ?_
  exact s_X14_isLong_19 C hE rf_fuel a1 s0 2 m hg
theorem c_X14_isLong {w : rf_w} {m : rf_m} {r : Int32 × rf_m} (hg : g_X14_isLong w m = some r) : rf_Con j_X14_isLong 1 (rf_sh w) [.ref 206] (rf_MM w m) (some (.int r.1)) (rf_MM w r.2) := by
  refine rf_con j_X14_isLong 1 ⟨by decide +kernel, rfl, Nat.le_of_ble_eq_true rfl⟩ (fun K C hE => ?_)
  unfold g_X14_isLong at hg
  show rf_V 4 (rf_sh w) K 0 0 0 ([(0, .ref 206)], [], rf_MM w m)
  refine rf_seg C [(.iconst 1, 1), (.istore 1, 1), (.aload 0, 1), (.invokeinterface 14 72, 3), (.iconst 1, 1), (.iaload, 1)] (pc' := 8) (S' := ([(1, .int 1), (0, .ref 206)], [.int (m.1 249 (Int32.toNatClampNeg 1))], rf_MM w m)) (by decide +kernel) rfl (rf_in_of (by decide)) ?_
  refine rf_if_ge C 7 15 (by decide +kernel) (fun hc => ?_) (fun hc => ?_)
  · replace hg := (if_pos hc).symm.trans hg
    refine rf_seg C [(.iconst 0, 1)] (pc' := 16) (S' := ([(1, .int 1), (0, .ref 206)], [.int 0], rf_MM w m)) (by decide +kernel) rfl trivial ?_
    refine rf_few [1, 0] rfl ?_
    exact s_X14_isLong_16 C hE 1 0 m hg
  · replace hg := (if_neg hc).symm.trans hg
    refine rf_seg C [(.iconst (-1), 1)] (pc' := 12) (S' := ([(1, .int 1), (0, .ref 206)], [.int ((-1))], rf_MM w m)) (by decide +kernel) rfl trivial ?_
    refine rf_goto C 4 16 (by decide +kernel) ?_
    refine rf_few [1, 0] rfl ?_
    exact s_X14_isLong_16 C hE 1 ((-1)) m hg
-- X14_isPartOf
abbrev j_X14_isPartOf : rf_J := (14, yX14_isPartOf, cX14_isPartOf, 5, (some .boolean))
theorem mw_X14_isPartOf : rf_mv j_X14_isPartOf (rf_R 14) 2 := ⟨⟨rf_mem 70 (by decide +kernel), rf_mem 71 (by decide +kernel), rf_mem 0 (by decide +kernel), rf_mem 71 (by decide +kernel)⟩, by decide +kernel, by decide⟩
def g_X14_isPartOf_57 (w : rf_w) (rec5 : Int32 → Int32 → Int32 → Int32 → rf_m → Option (Int32 × rf_m)) (a1 : Int32) (a2 : Int32) (a4 : Int32) (s0 : Int32) (m : rf_m) : Option (Int32 × rf_m) := rec5 a1 a2 s0 (a4 + 1) m
def g_X14_isPartOf_52 (w : rf_w) (rec5 : Int32 → Int32 → Int32 → Int32 → rf_m → Option (Int32 × rf_m)) (a1 : Int32) (a2 : Int32) (a4 : Int32) (m : rf_m) : Option (Int32 × rf_m) := g_X14_isPartOf_57 w rec5 a1 a2 a4 1 m
def g_X14_isPartOf_5_b (w : rf_w) (rec5 : Int32 → Int32 → Int32 → Int32 → rf_m → Option (Int32 × rf_m)) (a1 : Int32) (a2 : Int32) (a3 : Int32) (a4 : Int32) (m : rf_m) : Option (Int32 × rf_m) := rf_g (rf_in a1 6) (rf_g (rf_in a1 6) (rf_b (g_X14_sizeOf w m (m.1 261 (Int32.toNatClampNeg a1)) (m.1 262 (Int32.toNatClampNeg a1))) fun y2 m2 => (if y2 ≤ a4 then rf_g (rf_01 a3) (some (a3, m2)) else (if a3 = 0 then rf_g (rf_in a1 6) (rf_g (rf_in a1 6) (rf_b (g_X14_angleIn w m2 (m2.1 261 (Int32.toNatClampNeg a1)) (m2.1 262 (Int32.toNatClampNeg a1)) a4) fun y5 m5 => (if y5 = a2 then g_X14_isPartOf_52 w rec5 a1 a2 a4 m5 else g_X14_isPartOf_57 w rec5 a1 a2 a4 0 m5))) else g_X14_isPartOf_52 w rec5 a1 a2 a4 m2))))
def g_X14_isPartOf_5 (w : rf_w) : Nat → Int32 → Int32 → Int32 → Int32 → rf_m → Option (Int32 × rf_m)
  | 0, _, _, _, _, _ => none
  | n + 1, a1, a2, a3, a4, m => g_X14_isPartOf_5_b w (g_X14_isPartOf_5 w n) a1 a2 a3 a4 m
def g_X14_isPartOf (w : rf_w) (m : rf_m) (a1 : Int32) (a2 : Int32) : Option (Int32 × rf_m) := g_X14_isPartOf_5 w rf_fuel a1 a2 0 0 m
theorem s_X14_isPartOf_57 {w : rf_w} {K : rf_K} {r : Int32 × rf_m} (C : rf_Ctx 14 cX14_isPartOf 5 2 (rf_sh w) K) (hE : rf_End (some .boolean) K (rf_sh w) 0 0 (some (.int r.1)) (rf_MM w r.2)) {rec5 : Int32 → Int32 → Int32 → Int32 → rf_m → Option (Int32 × rf_m)} (hr5 : ∀ (a1 : Int32) (a2 : Int32) (a3 : Int32) (a4 : Int32) (m : rf_m), rec5 a1 a2 a3 a4 m = some r → rf_V 5 (rf_sh w) K 0 0 5 ([(0, .ref 206), (1, .int a1), (2, .int a2), (3, .int a3), (4, .int a4)], [], rf_MM w m)) (a1 : Int32) (a2 : Int32) (a4 : Int32) (s0 : Int32) (m : rf_m) (hg : g_X14_isPartOf_57 w rec5 a1 a2 a4 s0 m = some r) : rf_V 5 (rf_sh w) K 0 0 57 ([(0, .ref 206), (1, .int a1), (2, .int a2), (4, .int a4)], [.int s0], rf_MM w m) := by
  unfold g_X14_isPartOf_57 at hg
  refine rf_seg C [(.istore 3, 1), (.iinc 4 1, 3)] (pc' := 61) (S' := ([(4, .int (a4 + 1)), (3, .int s0), (0, .ref 206), (1, .int a1), (2, .int a2)], [], rf_MM w m)) (by decide +kernel) rfl trivial ?_
  refine rf_goto C (-56) 5 (by decide +kernel) ?_
  refine rf_few [2, 3, 4, 1, 0] rfl ?_
  exact hr5 a1 a2 s0 (a4 + 1) m hg
theorem s_X14_isPartOf_52 {w : rf_w} {K : rf_K} {r : Int32 × rf_m} (C : rf_Ctx 14 cX14_isPartOf 5 2 (rf_sh w) K) (hE : rf_End (some .boolean) K (rf_sh w) 0 0 (some (.int r.1)) (rf_MM w r.2)) {rec5 : Int32 → Int32 → Int32 → Int32 → rf_m → Option (Int32 × rf_m)} (hr5 : ∀ (a1 : Int32) (a2 : Int32) (a3 : Int32) (a4 : Int32) (m : rf_m), rec5 a1 a2 a3 a4 m = some r → rf_V 5 (rf_sh w) K 0 0 5 ([(0, .ref 206), (1, .int a1), (2, .int a2), (3, .int a3), (4, .int a4)], [], rf_MM w m)) (a1 : Int32) (a2 : Int32) (a4 : Int32) (m : rf_m) (hg : g_X14_isPartOf_52 w rec5 a1 a2 a4 m = some r) : rf_V 5 (rf_sh w) K 0 0 52 ([(0, .ref 206), (1, .int a1), (2, .int a2), (4, .int a4)], [], rf_MM w m) := by
  unfold g_X14_isPartOf_52 at hg
  refine rf_seg C [(.iconst 1, 1)] (pc' := 53) (S' := ([(0, .ref 206), (1, .int a1), (2, .int a2), (4, .int a4)], [.int 1], rf_MM w m)) (by decide +kernel) rfl trivial ?_
  refine rf_goto C 4 57 (by decide +kernel) ?_
  refine rf_few [0, 1, 2, 3] rfl ?_
  exact s_X14_isPartOf_57 C hE hr5 a1 a2 a4 1 m hg
theorem s_X14_isPartOf_5_b {w : rf_w} {K : rf_K} {r : Int32 × rf_m} (C : rf_Ctx 14 cX14_isPartOf 5 2 (rf_sh w) K) (hE : rf_End (some .boolean) K (rf_sh w) 0 0 (some (.int r.1)) (rf_MM w r.2)) {rec5 : Int32 → Int32 → Int32 → Int32 → rf_m → Option (Int32 × rf_m)} (hr5 : ∀ (a1 : Int32) (a2 : Int32) (a3 : Int32) (a4 : Int32) (m : rf_m), rec5 a1 a2 a3 a4 m = some r → rf_V 5 (rf_sh w) K 0 0 5 ([(0, .ref 206), (1, .int a1), (2, .int a2), (3, .int a3), (4, .int a4)], [], rf_MM w m)) (a1 : Int32) (a2 : Int32) (a3 : Int32) (a4 : Int32) (m : rf_m) (hg : g_X14_isPartOf_5_b w rec5 a1 a2 a3 a4 m = some r) : rf_V 5 (rf_sh w) K 0 0 5 ([(0, .ref 206), (1, .int a1), (2, .int a2), (3, .int a3), (4, .int a4)], [], rf_MM w m) := by
  unfold g_X14_isPartOf_5_b at hg
  obtain ⟨q0, hg⟩ := rf_g_some hg
  obtain ⟨q1, hg⟩ := rf_g_some hg
  refine rf_seg C [(.iload 4, 2), (.aload 0, 1), (.aload 0, 1), (.invokeinterface 14 84, 3), (.iload 1, 1), (.iaload, 1), (.aload 0, 1), (.invokeinterface 14 85, 3), (.iload 1, 1), (.baload, 1)] (pc' := 20) (S' := ([(0, .ref 206), (1, .int a1), (2, .int a2), (3, .int a3), (4, .int a4)], [.int (m.1 262 (Int32.toNatClampNeg a1)), .int (m.1 261 (Int32.toNatClampNeg a1)), .ref 206, .int a4], rf_MM w m)) (by decide +kernel) rfl (by exact ⟨(rf_in_of q0), (rf_in_of q1)⟩) ?_
  obtain ⟨y2, m2, hc2, hg⟩ := rf_b_some hg
  refine rf_callv C rf_fit0 j_X14_sizeOf (ci := 14) (As := [.int (m.1 261 (Int32.toNatClampNeg a1)), .int (m.1 262 (Int32.toNatClampNeg a1))]) (rest := [.int a4]) mw_X14_sizeOf (c_X14_sizeOf hc2) (by decide) rfl (by decide) lk_14_703 rfl rfl (Nat.le_of_ble_eq_true rfl) (by decide +kernel) ?_
  show rf_V 5 (rf_sh w) K 0 0 23 ([(0, .ref 206), (1, .int a1), (2, .int a2), (3, .int a3), (4, .int a4)], [.int y2, .int a4], rf_MM w m2)
  refine rf_icmp_ge C 41 64 (by decide +kernel) (fun hc => ?_) (fun hc => ?_)
  · replace hg := (if_pos hc).symm.trans hg
    refine rf_seg C [(.iload 3, 1)] (pc' := 65) (S' := ([(0, .ref 206), (1, .int a1), (2, .int a2), (3, .int a3), (4, .int a4)], [.int a3], rf_MM w m2)) (by decide +kernel) rfl trivial ?_
    obtain ⟨q01, hg⟩ := rf_g_some hg
    obtain rfl := Option.some.inj hg
    exact rf_zret C hE (rf_01_of q01) (by decide +kernel)
  · replace hg := (if_neg hc).symm.trans hg
    refine rf_seg C [(.iload 3, 1)] (pc' := 27) (S' := ([(0, .ref 206), (1, .int a1), (2, .int a2), (3, .int a3), (4, .int a4)], [.int a3], rf_MM w m2)) (by decide +kernel) rfl trivial ?_
    refine rf_if_ne C 25 52 (by decide +kernel) (fun hc => ?_) (fun hc => ?_)
    · replace hg := (if_neg hc).symm.trans hg
      refine rf_few [0, 1, 2, 4] rfl ?_
      exact s_X14_isPartOf_52 C hE hr5 a1 a2 a4 m2 hg
    · replace hg := (if_pos hc).symm.trans hg
      obtain ⟨q3, hg⟩ := rf_g_some hg
      obtain ⟨q4, hg⟩ := rf_g_some hg
      refine rf_seg C [(.aload 0, 1), (.aload 0, 1), (.invokeinterface 14 84, 3), (.iload 1, 1), (.iaload, 1), (.aload 0, 1), (.invokeinterface 14 85, 3), (.iload 1, 1), (.baload, 1), (.iload 4, 2)] (pc' := 45) (S' := ([(0, .ref 206), (1, .int a1), (2, .int a2), (3, .int a3), (4, .int a4)], [.int a4, .int (m2.1 262 (Int32.toNatClampNeg a1)), .int (m2.1 261 (Int32.toNatClampNeg a1)), .ref 206], rf_MM w m2)) (by decide +kernel) rfl (by exact ⟨(rf_in_of q3), (rf_in_of q4)⟩) ?_
      obtain ⟨y5, m5, hc5, hg⟩ := rf_b_some hg
      refine rf_callv C rf_fit0 j_X14_angleIn (ci := 14) (As := [.int (m2.1 261 (Int32.toNatClampNeg a1)), .int (m2.1 262 (Int32.toNatClampNeg a1)), .int a4]) (rest := []) mw_X14_angleIn (c_X14_angleIn hc5) (by decide) rfl (by decide) lk_14_706 rfl rfl (Nat.le_of_ble_eq_true rfl) (by decide +kernel) ?_
      show rf_V 5 (rf_sh w) K 0 0 48 ([(0, .ref 206), (1, .int a1), (2, .int a2), (3, .int a3), (4, .int a4)], [.int y5], rf_MM w m5)
      refine rf_seg C [(.iload 2, 1)] (pc' := 49) (S' := ([(0, .ref 206), (1, .int a1), (2, .int a2), (3, .int a3), (4, .int a4)], [.int a2, .int y5], rf_MM w m5)) (by decide +kernel) rfl trivial ?_
      refine rf_icmp_ne C 7 56 (by decide +kernel) (fun hc => ?_) (fun hc => ?_)
      · replace hg := (if_neg hc).symm.trans hg
        refine rf_seg C [(.iconst 0, 1)] (pc' := 57) (S' := ([(0, .ref 206), (1, .int a1), (2, .int a2), (3, .int a3), (4, .int a4)], [.int 0], rf_MM w m5)) (by decide +kernel) rfl trivial ?_
        refine rf_few [0, 1, 2, 4] rfl ?_
        exact s_X14_isPartOf_57 C hE hr5 a1 a2 a4 0 m5 hg
      · replace hg := (if_pos hc).symm.trans hg
        refine rf_few [0, 1, 2, 4] rfl ?_
        exact s_X14_isPartOf_52 C hE hr5 a1 a2 a4 m5 hg
theorem s_X14_isPartOf_5 {w : rf_w} {K : rf_K} {r : Int32 × rf_m} (C : rf_Ctx 14 cX14_isPartOf 5 2 (rf_sh w) K) (hE : rf_End (some .boolean) K (rf_sh w) 0 0 (some (.int r.1)) (rf_MM w r.2)) (n : Nat) : ∀ (a1 : Int32) (a2 : Int32) (a3 : Int32) (a4 : Int32) (m : rf_m), g_X14_isPartOf_5 w n a1 a2 a3 a4 m = some r → rf_V 5 (rf_sh w) K 0 0 5 ([(0, .ref 206), (1, .int a1), (2, .int a2), (3, .int a3), (4, .int a4)], [], rf_MM w m) := by
  induction n with
  | zero => intro a1 a2 a3 a4 m hg; cases hg
  | succ n ih => intro a1 a2 a3 a4 m hg; exact s_X14_isPartOf_5_b C hE ih a1 a2 a3 a4 m hg
theorem c_X14_isPartOf {w : rf_w} {m : rf_m} {a1 : Int32} {a2 : Int32} {r : Int32 × rf_m} (hg : g_X14_isPartOf w m a1 a2 = some r) : rf_Con j_X14_isPartOf 2 (rf_sh w) [.ref 206, .int a1, .int a2] (rf_MM w m) (some (.int r.1)) (rf_MM w r.2) := by
  refine rf_con j_X14_isPartOf 2 ⟨by decide +kernel, rfl, Nat.le_of_ble_eq_true rfl⟩ (fun K C hE => ?_)
  unfold g_X14_isPartOf at hg
  show rf_V 5 (rf_sh w) K 0 0 0 ([(0, .ref 206), (1, .int a1), (2, .int a2)], [], rf_MM w m)
  refine rf_seg C [(.iconst 0, 1), (.istore 3, 1), (.iconst 0, 1), (.istore 4, 2)] (pc' := 5) (S' := ([(4, .int 0), (3, .int 0), (0, .ref 206), (1, .int a1), (2, .int a2)], [], rf_MM w m)) (by decide +kernel) rfl trivial ?_
  refine rf_few [2, 3, 4, 1, 0] rfl ?_
  exact s_X14_isPartOf_5 C hE rf_fuel a1 a2 0 0 m hg
-- X14_turns__257
abbrev j_X14_turns__257 : rf_J := (14, yX14_turns, cX14_turns, 5, none)
theorem mw_X14_turns__257 : rf_ms j_X14_turns__257 2 := ⟨⟨rf_mem 71 (by decide +kernel), rf_mem 0 (by decide +kernel), rf_mem 71 (by decide +kernel)⟩, by decide +kernel, by decide⟩
def g_X14_turns__257_5_b (w : rf_w) (rec5 : Int32 → Int64 → Int32 → rf_m → Option (rf_m)) (a1 : Int32) (a2 : Int64) (a4 : Int32) (m : rf_m) : Option (rf_m) := (if 6 ≤ a4 then some m else rf_g (rf_in (a1 + a4) 6) (rf_vl (a2 + ((Int32.toInt64 ((m.1 257 (Int32.toNatClampNeg (a1 + a4))) ^^^ ((-1)))) &&& 4294967295)) fun x1 => rf_g (rf_in (a1 + a4) 6) (rf_vl ((Int64.toUInt64 x1 >>> ((Int32.toInt64 32).toUInt64 &&& Int64.toUInt64 63)).toInt64) fun x3 => rec5 a1 x3 (a4 + 1) (rf_i m 257 (Int32.toNatClampNeg (a1 + a4)) (Int64.toInt32 x1)))))
def g_X14_turns__257_5 (w : rf_w) : Nat → Int32 → Int64 → Int32 → rf_m → Option (rf_m)
  | 0, _, _, _, _ => none
  | n + 1, a1, a2, a4, m => g_X14_turns__257_5_b w (g_X14_turns__257_5 w n) a1 a2 a4 m
def g_X14_turns__257 (w : rf_w) (m : rf_m) (a1 : Int32) : Option (rf_m) := g_X14_turns__257_5 w rf_fuel a1 1 0 m
theorem s_X14_turns__257_5_b {w : rf_w} {K : rf_K} {r : rf_m} (C : rf_Ctx 14 cX14_turns 5 1 (rf_sh w) K) (hE : rf_End none K (rf_sh w) 0 0 none (rf_MM w r)) {rec5 : Int32 → Int64 → Int32 → rf_m → Option (rf_m)} (hr5 : ∀ (a1 : Int32) (a2 : Int64) (a4 : Int32) (m : rf_m), rec5 a1 a2 a4 m = some r → rf_V 5 (rf_sh w) K 0 0 5 ([(0, .ref 257), (1, .int a1), (2, .long a2), (4, .int a4)], [], rf_MM w m)) (a1 : Int32) (a2 : Int64) (a4 : Int32) (m : rf_m) (hg : g_X14_turns__257_5_b w rec5 a1 a2 a4 m = some r) : rf_V 5 (rf_sh w) K 0 0 5 ([(0, .ref 257), (1, .int a1), (2, .long a2), (4, .int a4)], [], rf_MM w m) := by
  unfold g_X14_turns__257_5_b at hg
  refine rf_seg C [(.iload 4, 2), (.iconst 6, 2)] (pc' := 9) (S' := ([(0, .ref 257), (1, .int a1), (2, .long a2), (4, .int a4)], [.int 6, .int a4], rf_MM w m)) (by decide +kernel) rfl trivial ?_
  refine rf_icmp_ge C 38 47 (by decide +kernel) (fun hc => ?_) (fun hc => ?_)
  · replace hg := (if_pos hc).symm.trans hg
    obtain rfl := Option.some.inj hg
    exact rf_vret C hE (by decide +kernel)
  · replace hg := (if_neg hc).symm.trans hg
    obtain ⟨q0, hg⟩ := rf_g_some hg
    refine rf_seg C [(.lload 2, 1), (.aload 0, 1), (.iload 1, 1), (.iload 4, 2), (.iadd, 1), (.iaload, 1), (.iconst (-1), 1), (.ixor, 1), (.i2l, 1), (.goto_w 4294967295, 3), (.land, 1), (.ladd, 1)] (pc' := 27) (S' := ([(0, .ref 257), (1, .int a1), (2, .long a2), (4, .int a4)], [.long (a2 + ((Int32.toInt64 ((m.1 257 (Int32.toNatClampNeg (a1 + a4))) ^^^ ((-1)))) &&& 4294967295))], rf_MM w m)) (by decide +kernel) rfl (rf_in_of q0) ?_
    obtain ⟨x1, hx1, hg⟩ := rf_vl_some hg
    refine rf_vl_top hx1 ?_
    obtain ⟨q2, hg⟩ := rf_g_some hg
    refine rf_seg C [(.lstore 2, 1), (.aload 0, 1), (.iload 1, 1), (.iload 4, 2), (.iadd, 1), (.lload 2, 1), (.l2i, 1), (.iastore, 1), (.lload 2, 1), (.iconst 32, 2), (.lushr, 1)] (pc' := 40) (S' := ([(2, .long x1), (0, .ref 257), (1, .int a1), (4, .int a4)], [.long ((Int64.toUInt64 x1 >>> ((Int32.toInt64 32).toUInt64 &&& Int64.toUInt64 63)).toInt64)], rf_MM w (rf_i m 257 (Int32.toNatClampNeg (a1 + a4)) (Int64.toInt32 x1)))) (by decide +kernel) rfl (rf_in_of q2) ?_
    obtain ⟨x3, hx3, hg⟩ := rf_vl_some hg
    refine rf_vl_top hx3 ?_
    refine rf_seg C [(.lstore 2, 1), (.iinc 4 1, 3)] (pc' := 44) (S' := ([(4, .int (a4 + 1)), (2, .long x3), (0, .ref 257), (1, .int a1)], [], rf_MM w (rf_i m 257 (Int32.toNatClampNeg (a1 + a4)) (Int64.toInt32 x1)))) (by decide +kernel) rfl trivial ?_
    refine rf_goto C (-39) 5 (by decide +kernel) ?_
    refine rf_few [2, 3, 1, 0] rfl ?_
    exact hr5 a1 x3 (a4 + 1) (rf_i m 257 (Int32.toNatClampNeg (a1 + a4)) (Int64.toInt32 x1)) hg
theorem s_X14_turns__257_5 {w : rf_w} {K : rf_K} {r : rf_m} (C : rf_Ctx 14 cX14_turns 5 1 (rf_sh w) K) (hE : rf_End none K (rf_sh w) 0 0 none (rf_MM w r)) (n : Nat) : ∀ (a1 : Int32) (a2 : Int64) (a4 : Int32) (m : rf_m), g_X14_turns__257_5 w n a1 a2 a4 m = some r → rf_V 5 (rf_sh w) K 0 0 5 ([(0, .ref 257), (1, .int a1), (2, .long a2), (4, .int a4)], [], rf_MM w m) := by
  induction n with
  | zero => intro a1 a2 a4 m hg; cases hg
  | succ n ih => intro a1 a2 a4 m hg; exact s_X14_turns__257_5_b C hE ih a1 a2 a4 m hg
theorem c_X14_turns__257 {w : rf_w} {m : rf_m} {a1 : Int32} {r : rf_m} (hg : g_X14_turns__257 w m a1 = some r) : rf_Con j_X14_turns__257 1 (rf_sh w) [.ref 257, .int a1] (rf_MM w m) none (rf_MM w r) := by
  refine rf_con j_X14_turns__257 1 ⟨by decide +kernel, rfl, Nat.le_of_ble_eq_true rfl⟩ (fun K C hE => ?_)
  unfold g_X14_turns__257 at hg
  show rf_V 5 (rf_sh w) K 0 0 0 ([(0, .ref 257), (1, .int a1)], [], rf_MM w m)
  refine rf_seg C [(.goto_w 1, 1), (.lstore 2, 1), (.iconst 0, 1), (.istore 4, 2)] (pc' := 5) (S' := ([(4, .int 0), (2, .long 1), (0, .ref 257), (1, .int a1)], [], rf_MM w m)) (by decide +kernel) rfl trivial ?_
  refine rf_few [2, 3, 1, 0] rfl ?_
  exact s_X14_turns__257_5 C hE rf_fuel a1 1 0 m hg
-- X14_times__257_264
abbrev j_X14_times__257_264 : rf_J := (14, yX14_times, cX14_times, 10, none)
theorem mw_X14_times__257_264 : rf_ms j_X14_times__257_264 5 := ⟨⟨rf_mem 71 (by decide +kernel), rf_mem 0 (by decide +kernel), rf_mem 71 (by decide +kernel)⟩, by decide +kernel, by decide⟩
def g_X14_times__257_264_14_b (w : rf_w) (rec14 : Int32 → Int32 → Int32 → Int64 → Int64 → Int32 → rf_m → Option (rf_m)) (a1 : Int32) (a3 : Int32) (a4 : Int32) (a5 : Int64) (a7 : Int64) (a9 : Int32) (m : rf_m) : Option (rf_m) := (if 6 ≤ a9 then (if (0 : Int32) ≤ a4 then some m else rf_bv (g_X14_turns__257 w m a1) fun m0 => some m0) else rf_g (rf_in (a3 + a9) 480) (rf_vl (a7 + (((Int32.toInt64 (m.1 264 (Int32.toNatClampNeg (a3 + a9)))) &&& 4294967295) * a5)) fun x2 => rf_g (rf_in (a1 + a9) 6) (rf_vl ((Int64.toUInt64 x2 >>> ((Int32.toInt64 32).toUInt64 &&& Int64.toUInt64 63)).toInt64) fun x4 => rec14 a1 a3 a4 a5 x4 (a9 + 1) (rf_i m 257 (Int32.toNatClampNeg (a1 + a9)) (Int64.toInt32 x2)))))
def g_X14_times__257_264_14 (w : rf_w) : Nat → Int32 → Int32 → Int32 → Int64 → Int64 → Int32 → rf_m → Option (rf_m)
  | 0, _, _, _, _, _, _, _ => none
  | n + 1, a1, a3, a4, a5, a7, a9, m => g_X14_times__257_264_14_b w (g_X14_times__257_264_14 w n) a1 a3 a4 a5 a7 a9 m
def g_X14_times__257_264 (w : rf_w) (m : rf_m) (a1 : Int32) (a3 : Int32) (a4 : Int32) : Option (rf_m) := rf_b (g_absL w m (Int32.toInt64 a4)) fun y0 m0 => g_X14_times__257_264_14 w rf_fuel a1 a3 a4 y0 0 0 m0
theorem s_X14_times__257_264_14_b {w : rf_w} {K : rf_K} {r : rf_m} (C : rf_Ctx 14 cX14_times 10 2 (rf_sh w) K) (hE : rf_End none K (rf_sh w) 0 0 none (rf_MM w r)) {rec14 : Int32 → Int32 → Int32 → Int64 → Int64 → Int32 → rf_m → Option (rf_m)} (hr14 : ∀ (a1 : Int32) (a3 : Int32) (a4 : Int32) (a5 : Int64) (a7 : Int64) (a9 : Int32) (m : rf_m), rec14 a1 a3 a4 a5 a7 a9 m = some r → rf_V 10 (rf_sh w) K 0 0 14 ([(0, .ref 257), (1, .int a1), (2, .ref 264), (3, .int a3), (4, .int a4), (5, .long a5), (7, .long a7), (9, .int a9)], [], rf_MM w m)) (a1 : Int32) (a3 : Int32) (a4 : Int32) (a5 : Int64) (a7 : Int64) (a9 : Int32) (m : rf_m) (hg : g_X14_times__257_264_14_b w rec14 a1 a3 a4 a5 a7 a9 m = some r) : rf_V 10 (rf_sh w) K 0 0 14 ([(0, .ref 257), (1, .int a1), (2, .ref 264), (3, .int a3), (4, .int a4), (5, .long a5), (7, .long a7), (9, .int a9)], [], rf_MM w m) := by
  unfold g_X14_times__257_264_14_b at hg
  refine rf_seg C [(.iload 9, 2), (.iconst 6, 2)] (pc' := 18) (S' := ([(0, .ref 257), (1, .int a1), (2, .ref 264), (3, .int a3), (4, .int a4), (5, .long a5), (7, .long a7), (9, .int a9)], [.int 6, .int a9], rf_MM w m)) (by decide +kernel) rfl trivial ?_
  refine rf_icmp_ge C 44 62 (by decide +kernel) (fun hc => ?_) (fun hc => ?_)
  · replace hg := (if_pos hc).symm.trans hg
    refine rf_seg C [(.iload 4, 2)] (pc' := 64) (S' := ([(0, .ref 257), (1, .int a1), (2, .ref 264), (3, .int a3), (4, .int a4), (5, .long a5), (7, .long a7), (9, .int a9)], [.int a4], rf_MM w m)) (by decide +kernel) rfl trivial ?_
    refine rf_if_ge C 8 72 (by decide +kernel) (fun hc => ?_) (fun hc => ?_)
    · replace hg := (if_pos hc).symm.trans hg
      obtain rfl := Option.some.inj hg
      exact rf_vret C hE (by decide +kernel)
    · replace hg := (if_neg hc).symm.trans hg
      refine rf_seg C [(.aload 0, 1), (.iload 1, 1)] (pc' := 69) (S' := ([(0, .ref 257), (1, .int a1), (2, .ref 264), (3, .int a3), (4, .int a4), (5, .long a5), (7, .long a7), (9, .int a9)], [.int a1, .ref 257], rf_MM w m)) (by decide +kernel) rfl trivial ?_
      obtain ⟨m0, hc0, hg⟩ := rf_bv_some hg
      refine rf_calls C rf_fit0 j_X14_turns__257 (As := [.ref 257, .int a1]) (rest := []) mw_X14_turns__257 (c_X14_turns__257 hc0) (by decide) lk_14_736 rfl rfl (Nat.le_of_ble_eq_true rfl) (by decide +kernel) ?_
      show rf_V 10 (rf_sh w) K 0 0 72 ([(0, .ref 257), (1, .int a1), (2, .ref 264), (3, .int a3), (4, .int a4), (5, .long a5), (7, .long a7), (9, .int a9)], [], rf_MM w m0)
      obtain rfl := Option.some.inj hg
      exact rf_vret C hE (by decide +kernel)
  · replace hg := (if_neg hc).symm.trans hg
    obtain ⟨q1, hg⟩ := rf_g_some hg
    refine rf_seg C [(.lload 7, 2), (.aload 2, 1), (.iload 3, 1), (.iload 9, 2), (.iadd, 1), (.iaload, 1), (.i2l, 1), (.goto_w 4294967295, 3), (.land, 1), (.lload 5, 2), (.lmul, 1), (.ladd, 1)] (pc' := 38) (S' := ([(0, .ref 257), (1, .int a1), (2, .ref 264), (3, .int a3), (4, .int a4), (5, .long a5), (7, .long a7), (9, .int a9)], [.long (a7 + (((Int32.toInt64 (m.1 264 (Int32.toNatClampNeg (a3 + a9)))) &&& 4294967295) * a5))], rf_MM w m)) (by decide +kernel) rfl (rf_in_of q1) ?_
    obtain ⟨x2, hx2, hg⟩ := rf_vl_some hg
    refine rf_vl_top hx2 ?_
    obtain ⟨q3, hg⟩ := rf_g_some hg
    refine rf_seg C [(.lstore 7, 2), (.aload 0, 1), (.iload 1, 1), (.iload 9, 2), (.iadd, 1), (.lload 7, 2), (.l2i, 1), (.iastore, 1), (.lload 7, 2), (.iconst 32, 2), (.lushr, 1)] (pc' := 54) (S' := ([(7, .long x2), (0, .ref 257), (1, .int a1), (2, .ref 264), (3, .int a3), (4, .int a4), (5, .long a5), (9, .int a9)], [.long ((Int64.toUInt64 x2 >>> ((Int32.toInt64 32).toUInt64 &&& Int64.toUInt64 63)).toInt64)], rf_MM w (rf_i m 257 (Int32.toNatClampNeg (a1 + a9)) (Int64.toInt32 x2)))) (by decide +kernel) rfl (rf_in_of q3) ?_
    obtain ⟨x4, hx4, hg⟩ := rf_vl_some hg
    refine rf_vl_top hx4 ?_
    refine rf_seg C [(.lstore 7, 2), (.iinc 9 1, 3)] (pc' := 59) (S' := ([(9, .int (a9 + 1)), (7, .long x4), (0, .ref 257), (1, .int a1), (2, .ref 264), (3, .int a3), (4, .int a4), (5, .long a5)], [], rf_MM w (rf_i m 257 (Int32.toNatClampNeg (a1 + a9)) (Int64.toInt32 x2)))) (by decide +kernel) rfl trivial ?_
    refine rf_goto C (-45) 14 (by decide +kernel) ?_
    refine rf_few [2, 3, 4, 5, 6, 7, 1, 0] rfl ?_
    exact hr14 a1 a3 a4 a5 x4 (a9 + 1) (rf_i m 257 (Int32.toNatClampNeg (a1 + a9)) (Int64.toInt32 x2)) hg
theorem s_X14_times__257_264_14 {w : rf_w} {K : rf_K} {r : rf_m} (C : rf_Ctx 14 cX14_times 10 2 (rf_sh w) K) (hE : rf_End none K (rf_sh w) 0 0 none (rf_MM w r)) (n : Nat) : ∀ (a1 : Int32) (a3 : Int32) (a4 : Int32) (a5 : Int64) (a7 : Int64) (a9 : Int32) (m : rf_m), g_X14_times__257_264_14 w n a1 a3 a4 a5 a7 a9 m = some r → rf_V 10 (rf_sh w) K 0 0 14 ([(0, .ref 257), (1, .int a1), (2, .ref 264), (3, .int a3), (4, .int a4), (5, .long a5), (7, .long a7), (9, .int a9)], [], rf_MM w m) := by
  induction n with
  | zero => intro a1 a3 a4 a5 a7 a9 m hg; cases hg
  | succ n ih => intro a1 a3 a4 a5 a7 a9 m hg; exact s_X14_times__257_264_14_b C hE ih a1 a3 a4 a5 a7 a9 m hg
theorem c_X14_times__257_264 {w : rf_w} {m : rf_m} {a1 : Int32} {a3 : Int32} {a4 : Int32} {r : rf_m} (hg : g_X14_times__257_264 w m a1 a3 a4 = some r) : rf_Con j_X14_times__257_264 2 (rf_sh w) [.ref 257, .int a1, .ref 264, .int a3, .int a4] (rf_MM w m) none (rf_MM w r) := by
  refine rf_con j_X14_times__257_264 2 ⟨by decide +kernel, rfl, Nat.le_of_ble_eq_true rfl⟩ (fun K C hE => ?_)
  unfold g_X14_times__257_264 at hg
  show rf_V 10 (rf_sh w) K 0 0 0 ([(0, .ref 257), (1, .int a1), (2, .ref 264), (3, .int a3), (4, .int a4)], [], rf_MM w m)
  refine rf_seg C [(.iload 4, 2), (.i2l, 1)] (pc' := 3) (S' := ([(0, .ref 257), (1, .int a1), (2, .ref 264), (3, .int a3), (4, .int a4)], [.long (Int32.toInt64 a4)], rf_MM w m)) (by decide +kernel) rfl trivial ?_
  obtain ⟨y0, m0, hc0, hg⟩ := rf_b_some hg
  refine rf_calls C rf_fit0 j_absL (As := [.long (Int32.toInt64 a4)]) (rest := []) mw_absL (c_absL hc0) (by decide) lk_14_733 rfl rfl (Nat.le_of_ble_eq_true rfl) (by decide +kernel) ?_
  show rf_V 10 (rf_sh w) K 0 0 6 ([(0, .ref 257), (1, .int a1), (2, .ref 264), (3, .int a3), (4, .int a4)], [.long y0], rf_MM w m0)
  refine rf_seg C [(.lstore 5, 2), (.goto_w 0, 1), (.lstore 7, 2), (.iconst 0, 1), (.istore 9, 2)] (pc' := 14) (S' := ([(9, .int 0), (7, .long 0), (5, .long y0), (0, .ref 257), (1, .int a1), (2, .ref 264), (3, .int a3), (4, .int a4)], [], rf_MM w m0)) (by decide +kernel) rfl trivial ?_
  refine rf_few [3, 4, 5, 6, 7, 2, 1, 0] rfl ?_
  exact s_X14_times__257_264_14 C hE rf_fuel a1 a3 a4 y0 0 0 m0 hg
-- X14_copies__264_257
abbrev j_X14_copies__264_257 : rf_J := (14, yX14_copies, cX14_copies, 5, none)
theorem mw_X14_copies__264_257 : rf_ms j_X14_copies__264_257 4 := ⟨⟨rf_mem 71 (by decide +kernel), rf_mem 0 (by decide +kernel), rf_mem 71 (by decide +kernel)⟩, by decide +kernel, by decide⟩
def g_X14_copies__264_257_3_b (w : rf_w) (rec3 : Int32 → Int32 → Int32 → rf_m → Option (rf_m)) (a1 : Int32) (a3 : Int32) (a4 : Int32) (m : rf_m) : Option (rf_m) := (if 6 ≤ a4 then some m else rf_g (rf_in (a3 + a4) 6) (rf_g (rf_in (a1 + a4) 480) (rec3 a1 a3 (a4 + 1) (rf_i m 264 (Int32.toNatClampNeg (a1 + a4)) (m.1 257 (Int32.toNatClampNeg (a3 + a4)))))))
def g_X14_copies__264_257_3 (w : rf_w) : Nat → Int32 → Int32 → Int32 → rf_m → Option (rf_m)
  | 0, _, _, _, _ => none
  | n + 1, a1, a3, a4, m => g_X14_copies__264_257_3_b w (g_X14_copies__264_257_3 w n) a1 a3 a4 m
def g_X14_copies__264_257 (w : rf_w) (m : rf_m) (a1 : Int32) (a3 : Int32) : Option (rf_m) := g_X14_copies__264_257_3 w rf_fuel a1 a3 0 m
theorem s_X14_copies__264_257_3_b {w : rf_w} {K : rf_K} {r : rf_m} (C : rf_Ctx 14 cX14_copies 5 1 (rf_sh w) K) (hE : rf_End none K (rf_sh w) 0 0 none (rf_MM w r)) {rec3 : Int32 → Int32 → Int32 → rf_m → Option (rf_m)} (hr3 : ∀ (a1 : Int32) (a3 : Int32) (a4 : Int32) (m : rf_m), rec3 a1 a3 a4 m = some r → rf_V 5 (rf_sh w) K 0 0 3 ([(0, .ref 264), (1, .int a1), (2, .ref 257), (3, .int a3), (4, .int a4)], [], rf_MM w m)) (a1 : Int32) (a3 : Int32) (a4 : Int32) (m : rf_m) (hg : g_X14_copies__264_257_3_b w rec3 a1 a3 a4 m = some r) : rf_V 5 (rf_sh w) K 0 0 3 ([(0, .ref 264), (1, .int a1), (2, .ref 257), (3, .int a3), (4, .int a4)], [], rf_MM w m) := by
  unfold g_X14_copies__264_257_3_b at hg
  refine rf_seg C [(.iload 4, 2), (.iconst 6, 2)] (pc' := 7) (S' := ([(0, .ref 264), (1, .int a1), (2, .ref 257), (3, .int a3), (4, .int a4)], [.int 6, .int a4], rf_MM w m)) (by decide +kernel) rfl trivial ?_
  refine rf_icmp_ge C 21 28 (by decide +kernel) (fun hc => ?_) (fun hc => ?_)
  · replace hg := (if_pos hc).symm.trans hg
    obtain rfl := Option.some.inj hg
    exact rf_vret C hE (by decide +kernel)
  · replace hg := (if_neg hc).symm.trans hg
    obtain ⟨q0, hg⟩ := rf_g_some hg
    obtain ⟨q1, hg⟩ := rf_g_some hg
    refine rf_seg C [(.aload 0, 1), (.iload 1, 1), (.iload 4, 2), (.iadd, 1), (.aload 2, 1), (.iload 3, 1), (.iload 4, 2), (.iadd, 1), (.iaload, 1), (.iastore, 1), (.iinc 4 1, 3)] (pc' := 25) (S' := ([(4, .int (a4 + 1)), (0, .ref 264), (1, .int a1), (2, .ref 257), (3, .int a3)], [], rf_MM w (rf_i m 264 (Int32.toNatClampNeg (a1 + a4)) (m.1 257 (Int32.toNatClampNeg (a3 + a4)))))) (by decide +kernel) rfl (by exact ⟨(rf_in_of q0), (rf_in_of q1)⟩) ?_
    refine rf_goto C (-22) 3 (by decide +kernel) ?_
    refine rf_few [1, 2, 3, 4, 0] rfl ?_
    exact hr3 a1 a3 (a4 + 1) (rf_i m 264 (Int32.toNatClampNeg (a1 + a4)) (m.1 257 (Int32.toNatClampNeg (a3 + a4)))) hg
theorem s_X14_copies__264_257_3 {w : rf_w} {K : rf_K} {r : rf_m} (C : rf_Ctx 14 cX14_copies 5 1 (rf_sh w) K) (hE : rf_End none K (rf_sh w) 0 0 none (rf_MM w r)) (n : Nat) : ∀ (a1 : Int32) (a3 : Int32) (a4 : Int32) (m : rf_m), g_X14_copies__264_257_3 w n a1 a3 a4 m = some r → rf_V 5 (rf_sh w) K 0 0 3 ([(0, .ref 264), (1, .int a1), (2, .ref 257), (3, .int a3), (4, .int a4)], [], rf_MM w m) := by
  induction n with
  | zero => intro a1 a3 a4 m hg; cases hg
  | succ n ih => intro a1 a3 a4 m hg; exact s_X14_copies__264_257_3_b C hE ih a1 a3 a4 m hg
theorem c_X14_copies__264_257 {w : rf_w} {m : rf_m} {a1 : Int32} {a3 : Int32} {r : rf_m} (hg : g_X14_copies__264_257 w m a1 a3 = some r) : rf_Con j_X14_copies__264_257 1 (rf_sh w) [.ref 264, .int a1, .ref 257, .int a3] (rf_MM w m) none (rf_MM w r) := by
  refine rf_con j_X14_copies__264_257 1 ⟨by decide +kernel, rfl, Nat.le_of_ble_eq_true rfl⟩ (fun K C hE => ?_)
  unfold g_X14_copies__264_257 at hg
  show rf_V 5 (rf_sh w) K 0 0 0 ([(0, .ref 264), (1, .int a1), (2, .ref 257), (3, .int a3)], [], rf_MM w m)
  refine rf_seg C [(.iconst 0, 1), (.istore 4, 2)] (pc' := 3) (S' := ([(4, .int 0), (0, .ref 264), (1, .int a1), (2, .ref 257), (3, .int a3)], [], rf_MM w m)) (by decide +kernel) rfl trivial ?_
  refine rf_few [1, 2, 3, 4, 0] rfl ?_
  exact s_X14_copies__264_257_3 C hE rf_fuel a1 a3 0 m hg
-- X14_adds__264_258
abbrev j_X14_adds__264_258 : rf_J := (14, yX14_adds, cX14_adds, 7, none)
theorem mw_X14_adds__264_258 : rf_ms j_X14_adds__264_258 4 := ⟨⟨rf_mem 71 (by decide +kernel), rf_mem 0 (by decide +kernel), rf_mem 71 (by decide +kernel)⟩, by decide +kernel, by decide⟩
def g_X14_adds__264_258_6_b (w : rf_w) (rec6 : Int32 → Int32 → Int64 → Int32 → rf_m → Option (rf_m)) (a1 : Int32) (a3 : Int32) (a4 : Int64) (a6 : Int32) (m : rf_m) : Option (rf_m) := (if 6 ≤ a6 then some m else rf_g (rf_in (a1 + a6) 480) (rf_g (rf_in (a3 + a6) 36) (rf_vl (a4 + (((Int32.toInt64 (m.1 264 (Int32.toNatClampNeg (a1 + a6)))) &&& 4294967295) + ((Int32.toInt64 (m.1 258 (Int32.toNatClampNeg (a3 + a6)))) &&& 4294967295))) fun x2 => rf_g (rf_in (a1 + a6) 480) (rf_vl ((Int64.toUInt64 x2 >>> ((Int32.toInt64 32).toUInt64 &&& Int64.toUInt64 63)).toInt64) fun x4 => rec6 a1 a3 x4 (a6 + 1) (rf_i m 264 (Int32.toNatClampNeg (a1 + a6)) (Int64.toInt32 x2))))))
def g_X14_adds__264_258_6 (w : rf_w) : Nat → Int32 → Int32 → Int64 → Int32 → rf_m → Option (rf_m)
  | 0, _, _, _, _, _ => none
  | n + 1, a1, a3, a4, a6, m => g_X14_adds__264_258_6_b w (g_X14_adds__264_258_6 w n) a1 a3 a4 a6 m
def g_X14_adds__264_258 (w : rf_w) (m : rf_m) (a1 : Int32) (a3 : Int32) : Option (rf_m) := g_X14_adds__264_258_6 w rf_fuel a1 a3 0 0 m
theorem s_X14_adds__264_258_6_b {w : rf_w} {K : rf_K} {r : rf_m} (C : rf_Ctx 14 cX14_adds 7 1 (rf_sh w) K) (hE : rf_End none K (rf_sh w) 0 0 none (rf_MM w r)) {rec6 : Int32 → Int32 → Int64 → Int32 → rf_m → Option (rf_m)} (hr6 : ∀ (a1 : Int32) (a3 : Int32) (a4 : Int64) (a6 : Int32) (m : rf_m), rec6 a1 a3 a4 a6 m = some r → rf_V 7 (rf_sh w) K 0 0 6 ([(0, .ref 264), (1, .int a1), (2, .ref 258), (3, .int a3), (4, .long a4), (6, .int a6)], [], rf_MM w m)) (a1 : Int32) (a3 : Int32) (a4 : Int64) (a6 : Int32) (m : rf_m) (hg : g_X14_adds__264_258_6_b w rec6 a1 a3 a4 a6 m = some r) : rf_V 7 (rf_sh w) K 0 0 6 ([(0, .ref 264), (1, .int a1), (2, .ref 258), (3, .int a3), (4, .long a4), (6, .int a6)], [], rf_MM w m) := by
  unfold g_X14_adds__264_258_6_b at hg
  refine rf_seg C [(.iload 6, 2), (.iconst 6, 2)] (pc' := 10) (S' := ([(0, .ref 264), (1, .int a1), (2, .ref 258), (3, .int a3), (4, .long a4), (6, .int a6)], [.int 6, .int a6], rf_MM w m)) (by decide +kernel) rfl trivial ?_
  refine rf_icmp_ge C 53 63 (by decide +kernel) (fun hc => ?_) (fun hc => ?_)
  · replace hg := (if_pos hc).symm.trans hg
    obtain rfl := Option.some.inj hg
    exact rf_vret C hE (by decide +kernel)
  · replace hg := (if_neg hc).symm.trans hg
    obtain ⟨q0, hg⟩ := rf_g_some hg
    obtain ⟨q1, hg⟩ := rf_g_some hg
    refine rf_seg C [(.lload 4, 2), (.aload 0, 1), (.iload 1, 1), (.iload 6, 2), (.iadd, 1), (.iaload, 1), (.i2l, 1), (.goto_w 4294967295, 3), (.land, 1), (.aload 2, 1), (.iload 3, 1), (.iload 6, 2), (.iadd, 1), (.iaload, 1), (.i2l, 1), (.goto_w 4294967295, 3), (.land, 1), (.ladd, 1), (.ladd, 1)] (pc' := 39) (S' := ([(0, .ref 264), (1, .int a1), (2, .ref 258), (3, .int a3), (4, .long a4), (6, .int a6)], [.long (a4 + (((Int32.toInt64 (m.1 264 (Int32.toNatClampNeg (a1 + a6)))) &&& 4294967295) + ((Int32.toInt64 (m.1 258 (Int32.toNatClampNeg (a3 + a6)))) &&& 4294967295)))], rf_MM w m)) (by decide +kernel) rfl (by exact ⟨(rf_in_of q0), (rf_in_of q1)⟩) ?_
    obtain ⟨x2, hx2, hg⟩ := rf_vl_some hg
    refine rf_vl_top hx2 ?_
    obtain ⟨q3, hg⟩ := rf_g_some hg
    refine rf_seg C [(.lstore 4, 2), (.aload 0, 1), (.iload 1, 1), (.iload 6, 2), (.iadd, 1), (.lload 4, 2), (.l2i, 1), (.iastore, 1), (.lload 4, 2), (.iconst 32, 2), (.lushr, 1)] (pc' := 55) (S' := ([(4, .long x2), (0, .ref 264), (1, .int a1), (2, .ref 258), (3, .int a3), (6, .int a6)], [.long ((Int64.toUInt64 x2 >>> ((Int32.toInt64 32).toUInt64 &&& Int64.toUInt64 63)).toInt64)], rf_MM w (rf_i m 264 (Int32.toNatClampNeg (a1 + a6)) (Int64.toInt32 x2)))) (by decide +kernel) rfl (rf_in_of q3) ?_
    obtain ⟨x4, hx4, hg⟩ := rf_vl_some hg
    refine rf_vl_top hx4 ?_
    refine rf_seg C [(.lstore 4, 2), (.iinc 6 1, 3)] (pc' := 60) (S' := ([(6, .int (a6 + 1)), (4, .long x4), (0, .ref 264), (1, .int a1), (2, .ref 258), (3, .int a3)], [], rf_MM w (rf_i m 264 (Int32.toNatClampNeg (a1 + a6)) (Int64.toInt32 x2)))) (by decide +kernel) rfl trivial ?_
    refine rf_goto C (-54) 6 (by decide +kernel) ?_
    refine rf_few [2, 3, 4, 5, 1, 0] rfl ?_
    exact hr6 a1 a3 x4 (a6 + 1) (rf_i m 264 (Int32.toNatClampNeg (a1 + a6)) (Int64.toInt32 x2)) hg
theorem s_X14_adds__264_258_6 {w : rf_w} {K : rf_K} {r : rf_m} (C : rf_Ctx 14 cX14_adds 7 1 (rf_sh w) K) (hE : rf_End none K (rf_sh w) 0 0 none (rf_MM w r)) (n : Nat) : ∀ (a1 : Int32) (a3 : Int32) (a4 : Int64) (a6 : Int32) (m : rf_m), g_X14_adds__264_258_6 w n a1 a3 a4 a6 m = some r → rf_V 7 (rf_sh w) K 0 0 6 ([(0, .ref 264), (1, .int a1), (2, .ref 258), (3, .int a3), (4, .long a4), (6, .int a6)], [], rf_MM w m) := by
  induction n with
  | zero => intro a1 a3 a4 a6 m hg; cases hg
  | succ n ih => intro a1 a3 a4 a6 m hg; exact s_X14_adds__264_258_6_b C hE ih a1 a3 a4 a6 m hg
theorem c_X14_adds__264_258 {w : rf_w} {m : rf_m} {a1 : Int32} {a3 : Int32} {r : rf_m} (hg : g_X14_adds__264_258 w m a1 a3 = some r) : rf_Con j_X14_adds__264_258 1 (rf_sh w) [.ref 264, .int a1, .ref 258, .int a3] (rf_MM w m) none (rf_MM w r) := by
  refine rf_con j_X14_adds__264_258 1 ⟨by decide +kernel, rfl, Nat.le_of_ble_eq_true rfl⟩ (fun K C hE => ?_)
  unfold g_X14_adds__264_258 at hg
  show rf_V 7 (rf_sh w) K 0 0 0 ([(0, .ref 264), (1, .int a1), (2, .ref 258), (3, .int a3)], [], rf_MM w m)
  refine rf_seg C [(.goto_w 0, 1), (.lstore 4, 2), (.iconst 0, 1), (.istore 6, 2)] (pc' := 6) (S' := ([(6, .int 0), (4, .long 0), (0, .ref 264), (1, .int a1), (2, .ref 258), (3, .int a3)], [], rf_MM w m)) (by decide +kernel) rfl trivial ?_
  refine rf_few [2, 3, 4, 5, 1, 0] rfl ?_
  exact s_X14_adds__264_258_6 C hE rf_fuel a1 a3 0 0 m hg
-- X14_set__264
abbrev j_X14_set__264 : rf_J := (14, yX14_set, cX14_set, 5, none)
theorem mw_X14_set__264 : rf_ms j_X14_set__264 3 := ⟨⟨rf_mem 71 (by decide +kernel), rf_mem 0 (by decide +kernel), rf_mem 71 (by decide +kernel)⟩, by decide +kernel, by decide⟩
def g_X14_set__264_50 (w : rf_w) (rec3 : Int32 → Int64 → Int32 → rf_m → Option (rf_m)) (a1 : Int32) (a2 : Int64) (a4 : Int32) (s1 : Int32) (s2 : Int32) (m : rf_m) : Option (rf_m) := rf_g (rf_in s1 480) (rec3 a1 a2 (a4 + 1) (rf_i m 264 (Int32.toNatClampNeg s1) s2))
def g_X14_set__264_3_b (w : rf_w) (rec3 : Int32 → Int64 → Int32 → rf_m → Option (rf_m)) (a1 : Int32) (a2 : Int64) (a4 : Int32) (m : rf_m) : Option (rf_m) := (if 6 ≤ a4 then some m else (if a4 = 0 then g_X14_set__264_50 w rec3 a1 a2 a4 (a1 + a4) (Int64.toInt32 a2) m else (if a4 = 1 then g_X14_set__264_50 w rec3 a1 a2 a4 (a1 + a4) (Int64.toInt32 (a2 >>> (Int32.toInt64 32 &&& 63))) m else (if (0 : Int32) ≤ (lg_cmp a2 0) then g_X14_set__264_50 w rec3 a1 a2 a4 (a1 + a4) 0 m else g_X14_set__264_50 w rec3 a1 a2 a4 (a1 + a4) ((-1)) m))))
def g_X14_set__264_3 (w : rf_w) : Nat → Int32 → Int64 → Int32 → rf_m → Option (rf_m)
  | 0, _, _, _, _ => none
  | n + 1, a1, a2, a4, m => g_X14_set__264_3_b w (g_X14_set__264_3 w n) a1 a2 a4 m
def g_X14_set__264 (w : rf_w) (m : rf_m) (a1 : Int32) (a2 : Int64) : Option (rf_m) := g_X14_set__264_3 w rf_fuel a1 a2 0 m
theorem s_X14_set__264_50 {w : rf_w} {K : rf_K} {r : rf_m} (C : rf_Ctx 14 cX14_set 5 1 (rf_sh w) K) (hE : rf_End none K (rf_sh w) 0 0 none (rf_MM w r)) {rec3 : Int32 → Int64 → Int32 → rf_m → Option (rf_m)} (hr3 : ∀ (a1 : Int32) (a2 : Int64) (a4 : Int32) (m : rf_m), rec3 a1 a2 a4 m = some r → rf_V 5 (rf_sh w) K 0 0 3 ([(0, .ref 264), (1, .int a1), (2, .long a2), (4, .int a4)], [], rf_MM w m)) (a1 : Int32) (a2 : Int64) (a4 : Int32) (s1 : Int32) (s2 : Int32) (m : rf_m) (hg : g_X14_set__264_50 w rec3 a1 a2 a4 s1 s2 m = some r) : rf_V 5 (rf_sh w) K 0 0 50 ([(0, .ref 264), (1, .int a1), (2, .long a2), (4, .int a4)], [.int s2, .int s1, .ref 264], rf_MM w m) := by
  unfold g_X14_set__264_50 at hg
  obtain ⟨q0, hg⟩ := rf_g_some hg
  refine rf_seg C [(.iastore, 1), (.iinc 4 1, 3)] (pc' := 54) (S' := ([(4, .int (a4 + 1)), (0, .ref 264), (1, .int a1), (2, .long a2)], [], rf_MM w (rf_i m 264 (Int32.toNatClampNeg s1) s2))) (by decide +kernel) rfl (rf_in_of q0) ?_
  refine rf_goto C (-51) 3 (by decide +kernel) ?_
  refine rf_few [1, 2, 3, 0] rfl ?_
  exact hr3 a1 a2 (a4 + 1) (rf_i m 264 (Int32.toNatClampNeg s1) s2) hg
theorem s_X14_set__264_3_b {w : rf_w} {K : rf_K} {r : rf_m} (C : rf_Ctx 14 cX14_set 5 1 (rf_sh w) K) (hE : rf_End none K (rf_sh w) 0 0 none (rf_MM w r)) {rec3 : Int32 → Int64 → Int32 → rf_m → Option (rf_m)} (hr3 : ∀ (a1 : Int32) (a2 : Int64) (a4 : Int32) (m : rf_m), rec3 a1 a2 a4 m = some r → rf_V 5 (rf_sh w) K 0 0 3 ([(0, .ref 264), (1, .int a1), (2, .long a2), (4, .int a4)], [], rf_MM w m)) (a1 : Int32) (a2 : Int64) (a4 : Int32) (m : rf_m) (hg : g_X14_set__264_3_b w rec3 a1 a2 a4 m = some r) : rf_V 5 (rf_sh w) K 0 0 3 ([(0, .ref 264), (1, .int a1), (2, .long a2), (4, .int a4)], [], rf_MM w m) := by
  unfold g_X14_set__264_3_b at hg
  refine rf_seg C [(.iload 4, 2), (.iconst 6, 2)] (pc' := 7) (S' := ([(0, .ref 264), (1, .int a1), (2, .long a2), (4, .int a4)], [.int 6, .int a4], rf_MM w m)) (by decide +kernel) rfl trivial ?_
  refine rf_icmp_ge C 50 57 (by decide +kernel) (fun hc => ?_) (fun hc => ?_)
  · replace hg := (if_pos hc).symm.trans hg
    obtain rfl := Option.some.inj hg
    exact rf_vret C hE (by decide +kernel)
  · replace hg := (if_neg hc).symm.trans hg
    refine rf_seg C [(.aload 0, 1), (.iload 1, 1), (.iload 4, 2), (.iadd, 1), (.iload 4, 2)] (pc' := 17) (S' := ([(0, .ref 264), (1, .int a1), (2, .long a2), (4, .int a4)], [.int a4, .int (a1 + a4), .ref 264], rf_MM w m)) (by decide +kernel) rfl trivial ?_
    refine rf_if_ne C 8 25 (by decide +kernel) (fun hc => ?_) (fun hc => ?_)
    · replace hg := (if_neg hc).symm.trans hg
      refine rf_seg C [(.iload 4, 2), (.iconst 1, 1)] (pc' := 28) (S' := ([(0, .ref 264), (1, .int a1), (2, .long a2), (4, .int a4)], [.int 1, .int a4, .int (a1 + a4), .ref 264], rf_MM w m)) (by decide +kernel) rfl trivial ?_
      refine rf_icmp_ne C 11 39 (by decide +kernel) (fun hc => ?_) (fun hc => ?_)
      · replace hg := (if_neg hc).symm.trans hg
        refine rf_seg C [(.lload 2, 1), (.goto_w 0, 1), (.lcmp, 1)] (pc' := 42) (S' := ([(0, .ref 264), (1, .int a1), (2, .long a2), (4, .int a4)], [.int (lg_cmp a2 0), .int (a1 + a4), .ref 264], rf_MM w m)) (by decide +kernel) rfl trivial ?_
        refine rf_if_ge C 7 49 (by decide +kernel) (fun hc => ?_) (fun hc => ?_)
        · replace hg := (if_pos hc).symm.trans hg
          refine rf_seg C [(.iconst 0, 1)] (pc' := 50) (S' := ([(0, .ref 264), (1, .int a1), (2, .long a2), (4, .int a4)], [.int 0, .int (a1 + a4), .ref 264], rf_MM w m)) (by decide +kernel) rfl trivial ?_
          refine rf_few [0, 1, 2, 3] rfl ?_
          exact s_X14_set__264_50 C hE hr3 a1 a2 a4 (a1 + a4) 0 m hg
        · replace hg := (if_neg hc).symm.trans hg
          refine rf_seg C [(.iconst (-1), 1)] (pc' := 46) (S' := ([(0, .ref 264), (1, .int a1), (2, .long a2), (4, .int a4)], [.int ((-1)), .int (a1 + a4), .ref 264], rf_MM w m)) (by decide +kernel) rfl trivial ?_
          refine rf_goto C 4 50 (by decide +kernel) ?_
          refine rf_few [0, 1, 2, 3] rfl ?_
          exact s_X14_set__264_50 C hE hr3 a1 a2 a4 (a1 + a4) ((-1)) m hg
      · replace hg := (if_pos hc).symm.trans hg
        refine rf_seg C [(.lload 2, 1), (.iconst 32, 2), (.lshr, 1), (.l2i, 1)] (pc' := 36) (S' := ([(0, .ref 264), (1, .int a1), (2, .long a2), (4, .int a4)], [.int (Int64.toInt32 (a2 >>> (Int32.toInt64 32 &&& 63))), .int (a1 + a4), .ref 264], rf_MM w m)) (by decide +kernel) rfl trivial ?_
        refine rf_goto C 14 50 (by decide +kernel) ?_
        refine rf_few [0, 1, 2, 3] rfl ?_
        exact s_X14_set__264_50 C hE hr3 a1 a2 a4 (a1 + a4) (Int64.toInt32 (a2 >>> (Int32.toInt64 32 &&& 63))) m hg
    · replace hg := (if_pos hc).symm.trans hg
      refine rf_seg C [(.lload 2, 1), (.l2i, 1)] (pc' := 22) (S' := ([(0, .ref 264), (1, .int a1), (2, .long a2), (4, .int a4)], [.int (Int64.toInt32 a2), .int (a1 + a4), .ref 264], rf_MM w m)) (by decide +kernel) rfl trivial ?_
      refine rf_goto C 28 50 (by decide +kernel) ?_
      refine rf_few [0, 1, 2, 3] rfl ?_
      exact s_X14_set__264_50 C hE hr3 a1 a2 a4 (a1 + a4) (Int64.toInt32 a2) m hg
theorem s_X14_set__264_3 {w : rf_w} {K : rf_K} {r : rf_m} (C : rf_Ctx 14 cX14_set 5 1 (rf_sh w) K) (hE : rf_End none K (rf_sh w) 0 0 none (rf_MM w r)) (n : Nat) : ∀ (a1 : Int32) (a2 : Int64) (a4 : Int32) (m : rf_m), g_X14_set__264_3 w n a1 a2 a4 m = some r → rf_V 5 (rf_sh w) K 0 0 3 ([(0, .ref 264), (1, .int a1), (2, .long a2), (4, .int a4)], [], rf_MM w m) := by
  induction n with
  | zero => intro a1 a2 a4 m hg; cases hg
  | succ n ih => intro a1 a2 a4 m hg; exact s_X14_set__264_3_b C hE ih a1 a2 a4 m hg
theorem c_X14_set__264 {w : rf_w} {m : rf_m} {a1 : Int32} {a2 : Int64} {r : rf_m} (hg : g_X14_set__264 w m a1 a2 = some r) : rf_Con j_X14_set__264 1 (rf_sh w) [.ref 264, .int a1, .long a2] (rf_MM w m) none (rf_MM w r) := by
  refine rf_con j_X14_set__264 1 ⟨by decide +kernel, rfl, Nat.le_of_ble_eq_true rfl⟩ (fun K C hE => ?_)
  unfold g_X14_set__264 at hg
  show rf_V 5 (rf_sh w) K 0 0 0 ([(0, .ref 264), (1, .int a1), (2, .long a2)], [], rf_MM w m)
  refine rf_seg C [(.iconst 0, 1), (.istore 4, 2)] (pc' := 3) (S' := ([(4, .int 0), (0, .ref 264), (1, .int a1), (2, .long a2)], [], rf_MM w m)) (by decide +kernel) rfl trivial ?_
  refine rf_few [1, 2, 3, 0] rfl ?_
  exact s_X14_set__264_3 C hE rf_fuel a1 a2 0 m hg
-- X14_times__257_252
abbrev j_X14_times__257_252 : rf_J := (14, yX14_times, cX14_times, 10, none)
theorem mw_X14_times__257_252 : rf_ms j_X14_times__257_252 5 := ⟨⟨rf_mem 71 (by decide +kernel), rf_mem 0 (by decide +kernel), rf_mem 71 (by decide +kernel)⟩, by decide +kernel, by decide⟩
def g_X14_times__257_252_14_b (w : rf_w) (rec14 : Int32 → Int32 → Int32 → Int64 → Int64 → Int32 → rf_m → Option (rf_m)) (a1 : Int32) (a3 : Int32) (a4 : Int32) (a5 : Int64) (a7 : Int64) (a9 : Int32) (m : rf_m) : Option (rf_m) := (if 6 ≤ a9 then (if (0 : Int32) ≤ a4 then some m else rf_bv (g_X14_turns__257 w m a1) fun m0 => some m0) else rf_g (rf_in (a3 + a9) 6) (rf_vl (a7 + (((Int32.toInt64 (m.1 252 (Int32.toNatClampNeg (a3 + a9)))) &&& 4294967295) * a5)) fun x2 => rf_g (rf_in (a1 + a9) 6) (rf_vl ((Int64.toUInt64 x2 >>> ((Int32.toInt64 32).toUInt64 &&& Int64.toUInt64 63)).toInt64) fun x4 => rec14 a1 a3 a4 a5 x4 (a9 + 1) (rf_i m 257 (Int32.toNatClampNeg (a1 + a9)) (Int64.toInt32 x2)))))
def g_X14_times__257_252_14 (w : rf_w) : Nat → Int32 → Int32 → Int32 → Int64 → Int64 → Int32 → rf_m → Option (rf_m)
  | 0, _, _, _, _, _, _, _ => none
  | n + 1, a1, a3, a4, a5, a7, a9, m => g_X14_times__257_252_14_b w (g_X14_times__257_252_14 w n) a1 a3 a4 a5 a7 a9 m
def g_X14_times__257_252 (w : rf_w) (m : rf_m) (a1 : Int32) (a3 : Int32) (a4 : Int32) : Option (rf_m) := rf_b (g_absL w m (Int32.toInt64 a4)) fun y0 m0 => g_X14_times__257_252_14 w rf_fuel a1 a3 a4 y0 0 0 m0
theorem s_X14_times__257_252_14_b {w : rf_w} {K : rf_K} {r : rf_m} (C : rf_Ctx 14 cX14_times 10 2 (rf_sh w) K) (hE : rf_End none K (rf_sh w) 0 0 none (rf_MM w r)) {rec14 : Int32 → Int32 → Int32 → Int64 → Int64 → Int32 → rf_m → Option (rf_m)} (hr14 : ∀ (a1 : Int32) (a3 : Int32) (a4 : Int32) (a5 : Int64) (a7 : Int64) (a9 : Int32) (m : rf_m), rec14 a1 a3 a4 a5 a7 a9 m = some r → rf_V 10 (rf_sh w) K 0 0 14 ([(0, .ref 257), (1, .int a1), (2, .ref 252), (3, .int a3), (4, .int a4), (5, .long a5), (7, .long a7), (9, .int a9)], [], rf_MM w m)) (a1 : Int32) (a3 : Int32) (a4 : Int32) (a5 : Int64) (a7 : Int64) (a9 : Int32) (m : rf_m) (hg : g_X14_times__257_252_14_b w rec14 a1 a3 a4 a5 a7 a9 m = some r) : rf_V 10 (rf_sh w) K 0 0 14 ([(0, .ref 257), (1, .int a1), (2, .ref 252), (3, .int a3), (4, .int a4), (5, .long a5), (7, .long a7), (9, .int a9)], [], rf_MM w m) := by
  unfold g_X14_times__257_252_14_b at hg
  refine rf_seg C [(.iload 9, 2), (.iconst 6, 2)] (pc' := 18) (S' := ([(0, .ref 257), (1, .int a1), (2, .ref 252), (3, .int a3), (4, .int a4), (5, .long a5), (7, .long a7), (9, .int a9)], [.int 6, .int a9], rf_MM w m)) (by decide +kernel) rfl trivial ?_
  refine rf_icmp_ge C 44 62 (by decide +kernel) (fun hc => ?_) (fun hc => ?_)
  · replace hg := (if_pos hc).symm.trans hg
    refine rf_seg C [(.iload 4, 2)] (pc' := 64) (S' := ([(0, .ref 257), (1, .int a1), (2, .ref 252), (3, .int a3), (4, .int a4), (5, .long a5), (7, .long a7), (9, .int a9)], [.int a4], rf_MM w m)) (by decide +kernel) rfl trivial ?_
    refine rf_if_ge C 8 72 (by decide +kernel) (fun hc => ?_) (fun hc => ?_)
    · replace hg := (if_pos hc).symm.trans hg
      obtain rfl := Option.some.inj hg
      exact rf_vret C hE (by decide +kernel)
    · replace hg := (if_neg hc).symm.trans hg
      refine rf_seg C [(.aload 0, 1), (.iload 1, 1)] (pc' := 69) (S' := ([(0, .ref 257), (1, .int a1), (2, .ref 252), (3, .int a3), (4, .int a4), (5, .long a5), (7, .long a7), (9, .int a9)], [.int a1, .ref 257], rf_MM w m)) (by decide +kernel) rfl trivial ?_
      obtain ⟨m0, hc0, hg⟩ := rf_bv_some hg
      refine rf_calls C rf_fit0 j_X14_turns__257 (As := [.ref 257, .int a1]) (rest := []) mw_X14_turns__257 (c_X14_turns__257 hc0) (by decide) lk_14_736 rfl rfl (Nat.le_of_ble_eq_true rfl) (by decide +kernel) ?_
      show rf_V 10 (rf_sh w) K 0 0 72 ([(0, .ref 257), (1, .int a1), (2, .ref 252), (3, .int a3), (4, .int a4), (5, .long a5), (7, .long a7), (9, .int a9)], [], rf_MM w m0)
      obtain rfl := Option.some.inj hg
      exact rf_vret C hE (by decide +kernel)
  · replace hg := (if_neg hc).symm.trans hg
    obtain ⟨q1, hg⟩ := rf_g_some hg
    refine rf_seg C [(.lload 7, 2), (.aload 2, 1), (.iload 3, 1), (.iload 9, 2), (.iadd, 1), (.iaload, 1), (.i2l, 1), (.goto_w 4294967295, 3), (.land, 1), (.lload 5, 2), (.lmul, 1), (.ladd, 1)] (pc' := 38) (S' := ([(0, .ref 257), (1, .int a1), (2, .ref 252), (3, .int a3), (4, .int a4), (5, .long a5), (7, .long a7), (9, .int a9)], [.long (a7 + (((Int32.toInt64 (m.1 252 (Int32.toNatClampNeg (a3 + a9)))) &&& 4294967295) * a5))], rf_MM w m)) (by decide +kernel) rfl (rf_in_of q1) ?_
    obtain ⟨x2, hx2, hg⟩ := rf_vl_some hg
    refine rf_vl_top hx2 ?_
    obtain ⟨q3, hg⟩ := rf_g_some hg
    refine rf_seg C [(.lstore 7, 2), (.aload 0, 1), (.iload 1, 1), (.iload 9, 2), (.iadd, 1), (.lload 7, 2), (.l2i, 1), (.iastore, 1), (.lload 7, 2), (.iconst 32, 2), (.lushr, 1)] (pc' := 54) (S' := ([(7, .long x2), (0, .ref 257), (1, .int a1), (2, .ref 252), (3, .int a3), (4, .int a4), (5, .long a5), (9, .int a9)], [.long ((Int64.toUInt64 x2 >>> ((Int32.toInt64 32).toUInt64 &&& Int64.toUInt64 63)).toInt64)], rf_MM w (rf_i m 257 (Int32.toNatClampNeg (a1 + a9)) (Int64.toInt32 x2)))) (by decide +kernel) rfl (rf_in_of q3) ?_
    obtain ⟨x4, hx4, hg⟩ := rf_vl_some hg
    refine rf_vl_top hx4 ?_
    refine rf_seg C [(.lstore 7, 2), (.iinc 9 1, 3)] (pc' := 59) (S' := ([(9, .int (a9 + 1)), (7, .long x4), (0, .ref 257), (1, .int a1), (2, .ref 252), (3, .int a3), (4, .int a4), (5, .long a5)], [], rf_MM w (rf_i m 257 (Int32.toNatClampNeg (a1 + a9)) (Int64.toInt32 x2)))) (by decide +kernel) rfl trivial ?_
    refine rf_goto C (-45) 14 (by decide +kernel) ?_
    refine rf_few [2, 3, 4, 5, 6, 7, 1, 0] rfl ?_
    exact hr14 a1 a3 a4 a5 x4 (a9 + 1) (rf_i m 257 (Int32.toNatClampNeg (a1 + a9)) (Int64.toInt32 x2)) hg
theorem s_X14_times__257_252_14 {w : rf_w} {K : rf_K} {r : rf_m} (C : rf_Ctx 14 cX14_times 10 2 (rf_sh w) K) (hE : rf_End none K (rf_sh w) 0 0 none (rf_MM w r)) (n : Nat) : ∀ (a1 : Int32) (a3 : Int32) (a4 : Int32) (a5 : Int64) (a7 : Int64) (a9 : Int32) (m : rf_m), g_X14_times__257_252_14 w n a1 a3 a4 a5 a7 a9 m = some r → rf_V 10 (rf_sh w) K 0 0 14 ([(0, .ref 257), (1, .int a1), (2, .ref 252), (3, .int a3), (4, .int a4), (5, .long a5), (7, .long a7), (9, .int a9)], [], rf_MM w m) := by
  induction n with
  | zero => intro a1 a3 a4 a5 a7 a9 m hg; cases hg
  | succ n ih => intro a1 a3 a4 a5 a7 a9 m hg; exact s_X14_times__257_252_14_b C hE ih a1 a3 a4 a5 a7 a9 m hg
theorem c_X14_times__257_252 {w : rf_w} {m : rf_m} {a1 : Int32} {a3 : Int32} {a4 : Int32} {r : rf_m} (hg : g_X14_times__257_252 w m a1 a3 a4 = some r) : rf_Con j_X14_times__257_252 2 (rf_sh w) [.ref 257, .int a1, .ref 252, .int a3, .int a4] (rf_MM w m) none (rf_MM w r) := by
  refine rf_con j_X14_times__257_252 2 ⟨by decide +kernel, rfl, Nat.le_of_ble_eq_true rfl⟩ (fun K C hE => ?_)
  unfold g_X14_times__257_252 at hg
  show rf_V 10 (rf_sh w) K 0 0 0 ([(0, .ref 257), (1, .int a1), (2, .ref 252), (3, .int a3), (4, .int a4)], [], rf_MM w m)
  refine rf_seg C [(.iload 4, 2), (.i2l, 1)] (pc' := 3) (S' := ([(0, .ref 257), (1, .int a1), (2, .ref 252), (3, .int a3), (4, .int a4)], [.long (Int32.toInt64 a4)], rf_MM w m)) (by decide +kernel) rfl trivial ?_
  obtain ⟨y0, m0, hc0, hg⟩ := rf_b_some hg
  refine rf_calls C rf_fit0 j_absL (As := [.long (Int32.toInt64 a4)]) (rest := []) mw_absL (c_absL hc0) (by decide) lk_14_733 rfl rfl (Nat.le_of_ble_eq_true rfl) (by decide +kernel) ?_
  show rf_V 10 (rf_sh w) K 0 0 6 ([(0, .ref 257), (1, .int a1), (2, .ref 252), (3, .int a3), (4, .int a4)], [.long y0], rf_MM w m0)
  refine rf_seg C [(.lstore 5, 2), (.goto_w 0, 1), (.lstore 7, 2), (.iconst 0, 1), (.istore 9, 2)] (pc' := 14) (S' := ([(9, .int 0), (7, .long 0), (5, .long y0), (0, .ref 257), (1, .int a1), (2, .ref 252), (3, .int a3), (4, .int a4)], [], rf_MM w m0)) (by decide +kernel) rfl trivial ?_
  refine rf_few [3, 4, 5, 6, 7, 2, 1, 0] rfl ?_
  exact s_X14_times__257_252_14 C hE rf_fuel a1 a3 a4 y0 0 0 m0 hg
-- X14_copies__252_257
abbrev j_X14_copies__252_257 : rf_J := (14, yX14_copies, cX14_copies, 5, none)
theorem mw_X14_copies__252_257 : rf_ms j_X14_copies__252_257 4 := ⟨⟨rf_mem 71 (by decide +kernel), rf_mem 0 (by decide +kernel), rf_mem 71 (by decide +kernel)⟩, by decide +kernel, by decide⟩
def g_X14_copies__252_257_3_b (w : rf_w) (rec3 : Int32 → Int32 → Int32 → rf_m → Option (rf_m)) (a1 : Int32) (a3 : Int32) (a4 : Int32) (m : rf_m) : Option (rf_m) := (if 6 ≤ a4 then some m else rf_g (rf_in (a3 + a4) 6) (rf_g (rf_in (a1 + a4) 6) (rec3 a1 a3 (a4 + 1) (rf_i m 252 (Int32.toNatClampNeg (a1 + a4)) (m.1 257 (Int32.toNatClampNeg (a3 + a4)))))))
def g_X14_copies__252_257_3 (w : rf_w) : Nat → Int32 → Int32 → Int32 → rf_m → Option (rf_m)
  | 0, _, _, _, _ => none
  | n + 1, a1, a3, a4, m => g_X14_copies__252_257_3_b w (g_X14_copies__252_257_3 w n) a1 a3 a4 m
def g_X14_copies__252_257 (w : rf_w) (m : rf_m) (a1 : Int32) (a3 : Int32) : Option (rf_m) := g_X14_copies__252_257_3 w rf_fuel a1 a3 0 m
theorem s_X14_copies__252_257_3_b {w : rf_w} {K : rf_K} {r : rf_m} (C : rf_Ctx 14 cX14_copies 5 1 (rf_sh w) K) (hE : rf_End none K (rf_sh w) 0 0 none (rf_MM w r)) {rec3 : Int32 → Int32 → Int32 → rf_m → Option (rf_m)} (hr3 : ∀ (a1 : Int32) (a3 : Int32) (a4 : Int32) (m : rf_m), rec3 a1 a3 a4 m = some r → rf_V 5 (rf_sh w) K 0 0 3 ([(0, .ref 252), (1, .int a1), (2, .ref 257), (3, .int a3), (4, .int a4)], [], rf_MM w m)) (a1 : Int32) (a3 : Int32) (a4 : Int32) (m : rf_m) (hg : g_X14_copies__252_257_3_b w rec3 a1 a3 a4 m = some r) : rf_V 5 (rf_sh w) K 0 0 3 ([(0, .ref 252), (1, .int a1), (2, .ref 257), (3, .int a3), (4, .int a4)], [], rf_MM w m) := by
  unfold g_X14_copies__252_257_3_b at hg
  refine rf_seg C [(.iload 4, 2), (.iconst 6, 2)] (pc' := 7) (S' := ([(0, .ref 252), (1, .int a1), (2, .ref 257), (3, .int a3), (4, .int a4)], [.int 6, .int a4], rf_MM w m)) (by decide +kernel) rfl trivial ?_
  refine rf_icmp_ge C 21 28 (by decide +kernel) (fun hc => ?_) (fun hc => ?_)
  · replace hg := (if_pos hc).symm.trans hg
    obtain rfl := Option.some.inj hg
    exact rf_vret C hE (by decide +kernel)
  · replace hg := (if_neg hc).symm.trans hg
    obtain ⟨q0, hg⟩ := rf_g_some hg
    obtain ⟨q1, hg⟩ := rf_g_some hg
    refine rf_seg C [(.aload 0, 1), (.iload 1, 1), (.iload 4, 2), (.iadd, 1), (.aload 2, 1), (.iload 3, 1), (.iload 4, 2), (.iadd, 1), (.iaload, 1), (.iastore, 1), (.iinc 4 1, 3)] (pc' := 25) (S' := ([(4, .int (a4 + 1)), (0, .ref 252), (1, .int a1), (2, .ref 257), (3, .int a3)], [], rf_MM w (rf_i m 252 (Int32.toNatClampNeg (a1 + a4)) (m.1 257 (Int32.toNatClampNeg (a3 + a4)))))) (by decide +kernel) rfl (by exact ⟨(rf_in_of q0), (rf_in_of q1)⟩) ?_
    refine rf_goto C (-22) 3 (by decide +kernel) ?_
    refine rf_few [1, 2, 3, 4, 0] rfl ?_
    exact hr3 a1 a3 (a4 + 1) (rf_i m 252 (Int32.toNatClampNeg (a1 + a4)) (m.1 257 (Int32.toNatClampNeg (a3 + a4)))) hg
theorem s_X14_copies__252_257_3 {w : rf_w} {K : rf_K} {r : rf_m} (C : rf_Ctx 14 cX14_copies 5 1 (rf_sh w) K) (hE : rf_End none K (rf_sh w) 0 0 none (rf_MM w r)) (n : Nat) : ∀ (a1 : Int32) (a3 : Int32) (a4 : Int32) (m : rf_m), g_X14_copies__252_257_3 w n a1 a3 a4 m = some r → rf_V 5 (rf_sh w) K 0 0 3 ([(0, .ref 252), (1, .int a1), (2, .ref 257), (3, .int a3), (4, .int a4)], [], rf_MM w m) := by
  induction n with
  | zero => intro a1 a3 a4 m hg; cases hg
  | succ n ih => intro a1 a3 a4 m hg; exact s_X14_copies__252_257_3_b C hE ih a1 a3 a4 m hg
theorem c_X14_copies__252_257 {w : rf_w} {m : rf_m} {a1 : Int32} {a3 : Int32} {r : rf_m} (hg : g_X14_copies__252_257 w m a1 a3 = some r) : rf_Con j_X14_copies__252_257 1 (rf_sh w) [.ref 252, .int a1, .ref 257, .int a3] (rf_MM w m) none (rf_MM w r) := by
  refine rf_con j_X14_copies__252_257 1 ⟨by decide +kernel, rfl, Nat.le_of_ble_eq_true rfl⟩ (fun K C hE => ?_)
  unfold g_X14_copies__252_257 at hg
  show rf_V 5 (rf_sh w) K 0 0 0 ([(0, .ref 252), (1, .int a1), (2, .ref 257), (3, .int a3)], [], rf_MM w m)
  refine rf_seg C [(.iconst 0, 1), (.istore 4, 2)] (pc' := 3) (S' := ([(4, .int 0), (0, .ref 252), (1, .int a1), (2, .ref 257), (3, .int a3)], [], rf_MM w m)) (by decide +kernel) rfl trivial ?_
  refine rf_few [1, 2, 3, 4, 0] rfl ?_
  exact s_X14_copies__252_257_3 C hE rf_fuel a1 a3 0 m hg
