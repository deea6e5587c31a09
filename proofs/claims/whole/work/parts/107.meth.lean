/-! methods as functions, and their contracts (written by wip/tool/gen.py) -/
-- X14_isInForce
abbrev j_X14_isInForce : rf_J := (14, yX14_isInForce, cX14_isInForce, 3, (some .boolean))
theorem mw_X14_isInForce : rf_mv j_X14_isInForce (rf_R 14) 2 := ⟨⟨rf_mem 29 (by decide +kernel), rf_mem 29 (by decide +kernel), rf_mem 0 (by decide +kernel), rf_mem 29 (by decide +kernel)⟩, by decide +kernel, by decide⟩
def g_X14_isInForce (w : rf_w) (m : rf_m) (a1 : Int32) (a2 : Int32) : Option (Int32 × rf_m) := rf_g (rf_in a1 24) (rf_o (rf_Rt w 229 (Int32.toNatClampNeg a1)) fun k1 => rf_g (rf_isO w k1 12) (rf_g (rf_isR w k1 5 (k1 + 1)) (rf_g (rf_isA w (k1 + 1) .int 300) (rf_g (rf_isR w k1 6 (k1 + 2)) (rf_g (rf_isA w (k1 + 2) .int 300) (rf_g (rf_in a1 24) (rf_o (rf_Rt w 229 (Int32.toNatClampNeg a1)) fun k8 => rf_g (rf_isO w k8 12) (rf_g (rf_isR w k8 5 (k8 + 1)) (rf_g (rf_isA w (k8 + 1) .int 300) (rf_g (rf_isR w k8 6 (k8 + 2)) (rf_g (rf_isA w (k8 + 2) .int 300) (rf_b (g_X14_in w m a2 (m.1 k1 1) (m.1 k8 2)) fun y14 m14 => rf_g (rf_01 y14) (some (y14, m14))))))))))))))
theorem c_X14_isInForce {w : rf_w} {m : rf_m} {a1 : Int32} {a2 : Int32} {r : Int32 × rf_m} (hg : g_X14_isInForce w m a1 a2 = some r) : rf_Con j_X14_isInForce 2 (rf_sh w) [.ref 206, .int a1, .int a2] (rf_MM w m) (some (.int r.1)) (rf_MM w r.2) := by
  refine rf_con j_X14_isInForce 2 ⟨by decide +kernel, rfl, Nat.le_of_ble_eq_true rfl⟩ (fun K C hE => ?_)
  unfold g_X14_isInForce at hg
  show rf_V 3 (rf_sh w) K 0 0 0 ([(0, .ref 206), (1, .int a1), (2, .int a2)], [], rf_MM w m)
  refine rf_seg C [(.iload 2, 1), (.aload 0, 1), (.invokeinterface 14 40, 3), (.iload 1, 1)] (pc' := 6) (S' := ([(0, .ref 206), (1, .int a1), (2, .int a2)], [.int a1, .ref 229, .int a2], rf_MM w m)) (by decide +kernel) rfl trivial ?_
  obtain ⟨q0, hg⟩ := rf_g_some hg
  obtain ⟨k1, hk1, hg⟩ := rf_o_some hg
  refine rf_d_aaload C (n := 24) (q := k1) rfl (rf_in_of q0) hk1 (by decide +kernel) ?_
  obtain ⟨q2, hg⟩ := rf_g_some hg
  obtain ⟨q3, hg⟩ := rf_g_some hg
  obtain ⟨q4, hg⟩ := rf_g_some hg
  obtain ⟨q5, hg⟩ := rf_g_some hg
  obtain ⟨q6, hg⟩ := rf_g_some hg
  show rf_V 3 (rf_sh w) K 0 0 7 ([(0, .ref 206), (1, .int a1), (2, .int a2)], [.ref k1, .int a2], rf_MM w m)
  refine rf_d_get C 12 1 (rf_isO_of q2) (by decide +kernel) ?_
  show rf_V 3 (rf_sh w) K 0 0 10 ([(0, .ref 206), (1, .int a1), (2, .int a2)], [.int (m.1 k1 1), .int a2], rf_MM w m)
  refine rf_seg C [(.aload 0, 1), (.invokeinterface 14 40, 3), (.iload 1, 1)] (pc' := 15) (S' := ([(0, .ref 206), (1, .int a1), (2, .int a2)], [.int a1, .ref 229, .int (m.1 k1 1), .int a2], rf_MM w m)) (by decide +kernel) rfl trivial ?_
  obtain ⟨q7, hg⟩ := rf_g_some hg
  obtain ⟨k8, hk8, hg⟩ := rf_o_some hg
  refine rf_d_aaload C (n := 24) (q := k8) rfl (rf_in_of q7) hk8 (by decide +kernel) ?_
  obtain ⟨q9, hg⟩ := rf_g_some hg
  obtain ⟨q10, hg⟩ := rf_g_some hg
  obtain ⟨q11, hg⟩ := rf_g_some hg
  obtain ⟨q12, hg⟩ := rf_g_some hg
  obtain ⟨q13, hg⟩ := rf_g_some hg
  show rf_V 3 (rf_sh w) K 0 0 16 ([(0, .ref 206), (1, .int a1), (2, .int a2)], [.ref k8, .int (m.1 k1 1), .int a2], rf_MM w m)
  refine rf_d_get C 12 2 (rf_isO_of q9) (by decide +kernel) ?_
  show rf_V 3 (rf_sh w) K 0 0 19 ([(0, .ref 206), (1, .int a1), (2, .int a2)], [.int (m.1 k8 2), .int (m.1 k1 1), .int a2], rf_MM w m)
  obtain ⟨y14, m14, hc14, hg⟩ := rf_b_some hg
  refine rf_calls C rf_fit0 j_X14_in (As := [.int a2, .int (m.1 k1 1), .int (m.1 k8 2)]) (rest := []) mw_X14_in (c_X14_in hc14) (by decide) lk_14_345 rfl rfl (Nat.le_of_ble_eq_true rfl) (by decide +kernel) ?_
  show rf_V 3 (rf_sh w) K 0 0 22 ([(0, .ref 206), (1, .int a1), (2, .int a2)], [.int y14], rf_MM w m14)
  obtain ⟨q01, hg⟩ := rf_g_some hg
  obtain rfl := Option.some.inj hg
  exact rf_zret C hE (rf_01_of q01) (by decide +kernel)
-- maxL
abbrev j_maxL : rf_J := (22, Lib.MathLoose.max_long.x, Lib.MathLoose.max_long.code, 4, (some .long))
theorem mw_maxL : rf_ms j_maxL 2 := ⟨⟨rf_mem 30 (by decide +kernel), rf_mem 20 (by decide +kernel), rf_mem 30 (by decide +kernel)⟩, by decide +kernel, by decide⟩
def g_maxL (w : rf_w) (m : rf_m) (a0 : Int64) (a2 : Int64) : Option (Int64 × rf_m) := (if (lg_cmp a0 a2) < 0 then some (a2, m) else some (a0, m))
theorem c_maxL {w : rf_w} {m : rf_m} {a0 : Int64} {a2 : Int64} {r : Int64 × rf_m} (hg : g_maxL w m a0 a2 = some r) : rf_Con j_maxL 1 (rf_sh w) [.long a0, .long a2] (rf_MM w m) (some (.long r.1)) (rf_MM w r.2) := by
  refine rf_con j_maxL 1 ⟨by decide +kernel, rfl, Nat.le_of_ble_eq_true rfl⟩ (fun K C hE => ?_)
  unfold g_maxL at hg
  show rf_V 4 (rf_sh w) K 0 0 0 ([(0, .long a0), (2, .long a2)], [], rf_MM w m)
  refine rf_seg C [(.lload 0, 1), (.lload 2, 1), (.lcmp, 1)] (pc' := 3) (S' := ([(0, .long a0), (2, .long a2)], [.int (lg_cmp a0 a2)], rf_MM w m)) (by decide +kernel) rfl trivial ?_
  refine rf_if_lt C 7 10 (by decide +kernel) (fun hc => ?_) (fun hc => ?_)
  · replace hg := (if_pos hc).symm.trans hg
    refine rf_seg C [(.lload 2, 1)] (pc' := 11) (S' := ([(0, .long a0), (2, .long a2)], [.long a2], rf_MM w m)) (by decide +kernel) rfl trivial ?_
    obtain rfl := Option.some.inj hg
    exact rf_lret C hE (by decide +kernel)
  · replace hg := (if_neg hc).symm.trans hg
    refine rf_seg C [(.lload 0, 1)] (pc' := 7) (S' := ([(0, .long a0), (2, .long a2)], [.long a0], rf_MM w m)) (by decide +kernel) rfl trivial ?_
    refine rf_goto C 4 11 (by decide +kernel) ?_
    obtain rfl := Option.some.inj hg
    exact rf_lret C hE (by decide +kernel)
-- X14_bound
abbrev j_X14_bound : rf_J := (14, yX14_bound, cX14_bound, 2, (some .int))
theorem mw_X14_bound : rf_ms j_X14_bound 1 := ⟨⟨rf_mem 30 (by decide +kernel), rf_mem 0 (by decide +kernel), rf_mem 30 (by decide +kernel)⟩, by decide +kernel, by decide⟩
def g_X14_bound (w : rf_w) (m : rf_m) (a0 : Int64) : Option (Int32 × rf_m) := rf_b (g_minL w m 1000000000 a0) fun y0 m0 => rf_b (g_maxL w m0 ((-1000000000)) y0) fun y1 m1 => some (Int64.toInt32 y1, m1)
theorem c_X14_bound {w : rf_w} {m : rf_m} {a0 : Int64} {r : Int32 × rf_m} (hg : g_X14_bound w m a0 = some r) : rf_Con j_X14_bound 2 (rf_sh w) [.long a0] (rf_MM w m) (some (.int r.1)) (rf_MM w r.2) := by
  refine rf_con j_X14_bound 2 ⟨by decide +kernel, rfl, Nat.le_of_ble_eq_true rfl⟩ (fun K C hE => ?_)
  unfold g_X14_bound at hg
  show rf_V 2 (rf_sh w) K 0 0 0 ([(0, .long a0)], [], rf_MM w m)
  refine rf_seg C [(.goto_w (-1000000000), 3), (.goto_w 1000000000, 3), (.lload 0, 1)] (pc' := 7) (S' := ([(0, .long a0)], [.long a0, .long 1000000000, .long ((-1000000000))], rf_MM w m)) (by decide +kernel) rfl trivial ?_
  obtain ⟨y0, m0, hc0, hg⟩ := rf_b_some hg
  refine rf_calls C rf_fit0 j_minL (As := [.long 1000000000, .long a0]) (rest := [.long ((-1000000000))]) mw_minL (c_minL hc0) (by decide) lk_14_639 rfl rfl (Nat.le_of_ble_eq_true rfl) (by decide +kernel) ?_
  show rf_V 2 (rf_sh w) K 0 0 10 ([(0, .long a0)], [.long y0, .long ((-1000000000))], rf_MM w m0)
  obtain ⟨y1, m1, hc1, hg⟩ := rf_b_some hg
  refine rf_calls C rf_fit0 j_maxL (As := [.long ((-1000000000)), .long y0]) (rest := []) mw_maxL (c_maxL hc1) (by decide) lk_14_642 rfl rfl (Nat.le_of_ble_eq_true rfl) (by decide +kernel) ?_
  show rf_V 2 (rf_sh w) K 0 0 13 ([(0, .long a0)], [.long y1], rf_MM w m1)
  refine rf_seg C [(.l2i, 1)] (pc' := 14) (S' := ([(0, .long a0)], [.int (Int64.toInt32 y1)], rf_MM w m1)) (by decide +kernel) rfl trivial ?_
  obtain rfl := Option.some.inj hg
  exact rf_iret C hE (by decide +kernel)
-- X14_valueOf
abbrev j_X14_valueOf : rf_J := (14, yX14_valueOf, cX14_valueOf, 12, (some .int))
theorem mw_X14_valueOf : rf_mv j_X14_valueOf (rf_R 14) 3 := ⟨⟨rf_mem 30 (by decide +kernel), rf_mem 30 (by decide +kernel), rf_mem 0 (by decide +kernel), rf_mem 30 (by decide +kernel)⟩, by decide +kernel, by decide⟩
def g_X14_valueOf_309 (w : rf_w) (rec6 : Nat → Int32 → Int32 → Int32 → rf_m → Option (Int32 × rf_m)) (a1 : Nat) (a3 : Int32) (a4 : Int32) (a5 : Int32) (m : rf_m) : Option (Int32 × rf_m) := rf_g (rf_isO w a1 12) (rf_g (rf_isR w a1 5 (a1 + 1)) (rf_g (rf_isA w (a1 + 1) .int 300) (rf_g (rf_isR w a1 6 (a1 + 2)) (rf_g (rf_isA w (a1 + 2) .int 300) (rec6 a1 a3 a4 (a5 + 1) m)))))
def g_X14_valueOf_65 (w : rf_w) (rec6 : Nat → Int32 → Int32 → Int32 → rf_m → Option (Int32 × rf_m)) (a1 : Nat) (a3 : Int32) (a4 : Int32) (a5 : Int32) (s1 : Int32) (s2 : Int32) (m : rf_m) : Option (Int32 × rf_m) := rf_g (rf_isO w a1 12) (rf_g (rf_isR w a1 5 (a1 + 1)) (rf_g (rf_isA w (a1 + 1) .int 300) (rf_g (rf_isR w a1 6 (a1 + 2)) (rf_g (rf_isA w (a1 + 2) .int 300) (rf_g (rf_in s1 300) (g_X14_valueOf_309 w rec6 a1 a3 (a4 + 1) a5 (rf_i m 235 (Int32.toNatClampNeg s1) s2)))))))
def g_X14_valueOf_32 (w : rf_w) (rec6 : Nat → Int32 → Int32 → Int32 → rf_m → Option (Int32 × rf_m)) (a1 : Nat) (a3 : Int32) (a4 : Int32) (a5 : Int32) (a6 : Int32) (m : rf_m) : Option (Int32 × rf_m) := rf_g (rf_isO w a1 12) (rf_g (rf_isR w a1 5 (a1 + 1)) (rf_g (rf_isA w (a1 + 1) .int 300) (rf_g (rf_isR w a1 6 (a1 + 2)) (rf_g (rf_isA w (a1 + 2) .int 300) ((if a6 = 0 then rf_g (rf_in a5 300) (g_X14_valueOf_65 w rec6 a1 a3 a4 a5 a4 (m.1 (a1 + 2) (Int32.toNatClampNeg a5)) m) else rf_g (rf_in a5 300) (rf_g (rf_in (m.1 (a1 + 2) (Int32.toNatClampNeg a5)) 7) (g_X14_valueOf_65 w rec6 a1 a3 a4 a5 a4 (m.1 228 (Int32.toNatClampNeg (m.1 (a1 + 2) (Int32.toNatClampNeg a5)))) m))))))))
def g_X14_valueOf_308 (w : rf_w) (rec6 : Nat → Int32 → Int32 → Int32 → rf_m → Option (Int32 × rf_m)) (a1 : Nat) (a3 : Int32) (a4 : Int32) (a5 : Int32) (s1 : Int32) (s2 : Int32) (m : rf_m) : Option (Int32 × rf_m) := rf_g (rf_isO w a1 12) (rf_g (rf_isR w a1 5 (a1 + 1)) (rf_g (rf_isA w (a1 + 1) .int 300) (rf_g (rf_isR w a1 6 (a1 + 2)) (rf_g (rf_isA w (a1 + 2) .int 300) (rf_g (rf_in s1 300) (g_X14_valueOf_309 w rec6 a1 a3 a4 a5 (rf_i m 235 (Int32.toNatClampNeg s1) s2)))))))
def g_X14_valueOf_237 (w : rf_w) (rec6 : Nat → Int32 → Int32 → Int32 → rf_m → Option (Int32 × rf_m)) (a1 : Nat) (a3 : Int32) (a4 : Int32) (a5 : Int32) (a6 : Int32) (a7 : Int64) (a9 : Int64) (s0 : Int32) (m : rf_m) : Option (Int32 × rf_m) := rf_g (rf_isO w a1 12) (rf_g (rf_isR w a1 5 (a1 + 1)) (rf_g (rf_isA w (a1 + 1) .int 300) (rf_g (rf_isR w a1 6 (a1 + 2)) (rf_g (rf_isA w (a1 + 2) .int 300) ((if a6 = 2 then rf_b (g_X14_bound w m (a7 + a9)) fun y7 m7 => g_X14_valueOf_308 w rec6 a1 a3 a4 a5 (a4 - 1) y7 m7 else (if a6 = 3 then rf_b (g_X14_bound w m (a7 - a9)) fun y6 m6 => g_X14_valueOf_308 w rec6 a1 a3 a4 a5 (a4 - 1) y6 m6 else (if a6 = 4 then rf_b (g_X14_bound w m (a7 * a9)) fun y5 m5 => g_X14_valueOf_308 w rec6 a1 a3 a4 a5 (a4 - 1) y5 m5 else (if s0 = 0 then g_X14_valueOf_308 w rec6 a1 a3 a4 a5 (a4 - 1) 0 m else g_X14_valueOf_308 w rec6 a1 a3 a4 a5 (a4 - 1) 1 m)))))))))
def g_X14_valueOf_6_b (w : rf_w) (rec6 : Nat → Int32 → Int32 → Int32 → rf_m → Option (Int32 × rf_m)) (a1 : Nat) (a3 : Int32) (a4 : Int32) (a5 : Int32) (m : rf_m) : Option (Int32 × rf_m) := rf_g (rf_isO w a1 12) (rf_g (rf_isR w a1 5 (a1 + 1)) (rf_g (rf_isA w (a1 + 1) .int 300) (rf_g (rf_isR w a1 6 (a1 + 2)) (rf_g (rf_isA w (a1 + 2) .int 300) ((if a3 ≤ a5 then some (m.1 235 (Int32.toNatClampNeg 0), m) else rf_g (rf_in a5 300) (rf_vi (m.1 (a1 + 1) (Int32.toNatClampNeg a5)) fun x6 => (if x6 = 0 then g_X14_valueOf_32 w rec6 a1 a3 a4 a5 x6 m else (if x6 = 1 then g_X14_valueOf_32 w rec6 a1 a3 a4 a5 x6 m else (if x6 = 8 then rf_g (rf_in (a4 - 1) 300) (rf_g (rf_in (a4 - 1) 300) (g_X14_valueOf_309 w rec6 a1 a3 a4 a5 (rf_i m 235 (Int32.toNatClampNeg (a4 - 1)) (1 - (m.1 235 (Int32.toNatClampNeg (a4 - 1))))))) else rf_g (rf_in ((a4 + (-1)) - 1) 300) (rf_vl (Int32.toInt64 (m.1 235 (Int32.toNatClampNeg ((a4 + (-1)) - 1)))) fun x8 => rf_g (rf_in (a4 + (-1)) 300) (rf_vl (Int32.toInt64 (m.1 235 (Int32.toNatClampNeg (a4 + (-1))))) fun x10 => (if x6 = 5 then (if (0 : Int32) ≤ (lg_cmp x8 x10) then g_X14_valueOf_237 w rec6 a1 a3 (a4 + (-1)) a5 x6 x8 x10 0 m else g_X14_valueOf_237 w rec6 a1 a3 (a4 + (-1)) a5 x6 x8 x10 1 m) else (if x6 = 6 then (if (lg_cmp x8 x10) ≤ 0 then g_X14_valueOf_237 w rec6 a1 a3 (a4 + (-1)) a5 x6 x8 x10 0 m else g_X14_valueOf_237 w rec6 a1 a3 (a4 + (-1)) a5 x6 x8 x10 1 m) else (if x6 = 7 then (if (lg_cmp x8 x10) = 0 then g_X14_valueOf_237 w rec6 a1 a3 (a4 + (-1)) a5 x6 x8 x10 1 m else g_X14_valueOf_237 w rec6 a1 a3 (a4 + (-1)) a5 x6 x8 x10 0 m) else (if x6 = 9 then (if (lg_cmp (x8 + x10) 2) = 0 then g_X14_valueOf_237 w rec6 a1 a3 (a4 + (-1)) a5 x6 x8 x10 1 m else g_X14_valueOf_237 w rec6 a1 a3 (a4 + (-1)) a5 x6 x8 x10 0 m) else (if (lg_cmp (x8 + x10) 0) ≤ 0 then g_X14_valueOf_237 w rec6 a1 a3 (a4 + (-1)) a5 x6 x8 x10 0 m else g_X14_valueOf_237 w rec6 a1 a3 (a4 + (-1)) a5 x6 x8 x10 1 m)))))))))))))))))
def g_X14_valueOf_6 (w : rf_w) : Nat → Nat → Int32 → Int32 → Int32 → rf_m → Option (Int32 × rf_m)
  | 0, _, _, _, _, _ => none
  | n + 1, a1, a3, a4, a5, m => g_X14_valueOf_6_b w (g_X14_valueOf_6 w n) a1 a3 a4 a5 m
def g_X14_valueOf (w : rf_w) (m : rf_m) (a1 : Nat) (a2 : Int32) (a3 : Int32) : Option (Int32 × rf_m) := rf_g (rf_isO w a1 12) (rf_g (rf_isR w a1 5 (a1 + 1)) (rf_g (rf_isA w (a1 + 1) .int 300) (rf_g (rf_isR w a1 6 (a1 + 2)) (rf_g (rf_isA w (a1 + 2) .int 300) (g_X14_valueOf_6 w rf_fuel a1 a3 0 a2 m)))))
theorem s_X14_valueOf_309 {w : rf_w} {K : rf_K} {r : Int32 × rf_m} (C : rf_Ctx 14 cX14_valueOf 12 3 (rf_sh w) K) (hE : rf_End (some .int) K (rf_sh w) 0 0 (some (.int r.1)) (rf_MM w r.2)) {rec6 : Nat → Int32 → Int32 → Int32 → rf_m → Option (Int32 × rf_m)} (hr6 : ∀ (a1 : Nat) (a3 : Int32) (a4 : Int32) (a5 : Int32) (m : rf_m), rec6 a1 a3 a4 a5 m = some r → rf_V 12 (rf_sh w) K 0 0 6 ([(0, .ref 206), (1, .ref a1), (3, .int a3), (4, .int a4), (5, .int a5)], [], rf_MM w m)) (a1 : Nat) (a3 : Int32) (a4 : Int32) (a5 : Int32) (m : rf_m) (hg : g_X14_valueOf_309 w rec6 a1 a3 a4 a5 m = some r) : rf_V 12 (rf_sh w) K 0 0 309 ([(0, .ref 206), (1, .ref a1), (3, .int a3), (4, .int a4), (5, .int a5)], [], rf_MM w m) := by
  unfold g_X14_valueOf_309 at hg
  obtain ⟨q0, hg⟩ := rf_g_some hg
  obtain ⟨q1, hg⟩ := rf_g_some hg
  obtain ⟨q2, hg⟩ := rf_g_some hg
  obtain ⟨q3, hg⟩ := rf_g_some hg
  obtain ⟨q4, hg⟩ := rf_g_some hg
  refine rf_seg C [(.iinc 5 1, 3)] (pc' := 312) (S' := ([(5, .int (a5 + 1)), (0, .ref 206), (1, .ref a1), (3, .int a3), (4, .int a4)], [], rf_MM w m)) (by decide +kernel) rfl trivial ?_
  refine rf_goto C (-306) 6 (by decide +kernel) ?_
  refine rf_few [1, 2, 3, 4, 0] rfl ?_
  exact hr6 a1 a3 a4 (a5 + 1) m hg
theorem s_X14_valueOf_65 {w : rf_w} {K : rf_K} {r : Int32 × rf_m} (C : rf_Ctx 14 cX14_valueOf 12 3 (rf_sh w) K) (hE : rf_End (some .int) K (rf_sh w) 0 0 (some (.int r.1)) (rf_MM w r.2)) {rec6 : Nat → Int32 → Int32 → Int32 → rf_m → Option (Int32 × rf_m)} (hr6 : ∀ (a1 : Nat) (a3 : Int32) (a4 : Int32) (a5 : Int32) (m : rf_m), rec6 a1 a3 a4 a5 m = some r → rf_V 12 (rf_sh w) K 0 0 6 ([(0, .ref 206), (1, .ref a1), (3, .int a3), (4, .int a4), (5, .int a5)], [], rf_MM w m)) (a1 : Nat) (a3 : Int32) (a4 : Int32) (a5 : Int32) (s1 : Int32) (s2 : Int32) (m : rf_m) (hg : g_X14_valueOf_65 w rec6 a1 a3 a4 a5 s1 s2 m = some r) : rf_V 12 (rf_sh w) K 0 0 65 ([(0, .ref 206), (1, .ref a1), (3, .int a3), (4, .int a4), (5, .int a5)], [.int s2, .int s1, .ref 235], rf_MM w m) := by
  unfold g_X14_valueOf_65 at hg
  obtain ⟨q0, hg⟩ := rf_g_some hg
  obtain ⟨q1, hg⟩ := rf_g_some hg
  obtain ⟨q2, hg⟩ := rf_g_some hg
  obtain ⟨q3, hg⟩ := rf_g_some hg
  obtain ⟨q4, hg⟩ := rf_g_some hg
  obtain ⟨q5, hg⟩ := rf_g_some hg
  refine rf_seg C [(.iastore, 1), (.iinc 4 1, 3)] (pc' := 69) (S' := ([(4, .int (a4 + 1)), (0, .ref 206), (1, .ref a1), (3, .int a3), (5, .int a5)], [], rf_MM w (rf_i m 235 (Int32.toNatClampNeg s1) s2))) (by decide +kernel) rfl (rf_in_of q5) ?_
  refine rf_goto C 240 309 (by decide +kernel) ?_
  refine rf_few [1, 2, 3, 0, 4] rfl ?_
  exact s_X14_valueOf_309 C hE hr6 a1 a3 (a4 + 1) a5 (rf_i m 235 (Int32.toNatClampNeg s1) s2) hg
theorem s_X14_valueOf_32 {w : rf_w} {K : rf_K} {r : Int32 × rf_m} (C : rf_Ctx 14 cX14_valueOf 12 3 (rf_sh w) K) (hE : rf_End (some .int) K (rf_sh w) 0 0 (some (.int r.1)) (rf_MM w r.2)) {rec6 : Nat → Int32 → Int32 → Int32 → rf_m → Option (Int32 × rf_m)} (hr6 : ∀ (a1 : Nat) (a3 : Int32) (a4 : Int32) (a5 : Int32) (m : rf_m), rec6 a1 a3 a4 a5 m = some r → rf_V 12 (rf_sh w) K 0 0 6 ([(0, .ref 206), (1, .ref a1), (3, .int a3), (4, .int a4), (5, .int a5)], [], rf_MM w m)) (a1 : Nat) (a3 : Int32) (a4 : Int32) (a5 : Int32) (a6 : Int32) (m : rf_m) (hg : g_X14_valueOf_32 w rec6 a1 a3 a4 a5 a6 m = some r) : rf_V 12 (rf_sh w) K 0 0 32 ([(0, .ref 206), (1, .ref a1), (3, .int a3), (4, .int a4), (5, .int a5), (6, .int a6)], [], rf_MM w m) := by
  unfold g_X14_valueOf_32 at hg
  obtain ⟨q0, hg⟩ := rf_g_some hg
  obtain ⟨q1, hg⟩ := rf_g_some hg
  obtain ⟨q2, hg⟩ := rf_g_some hg
  obtain ⟨q3, hg⟩ := rf_g_some hg
  obtain ⟨q4, hg⟩ := rf_g_some hg
  refine rf_seg C [(.aload 0, 1), (.invokeinterface 14 54, 3), (.iload 4, 2), (.iload 6, 2)] (pc' := 40) (S' := ([(0, .ref 206), (1, .ref a1), (3, .int a3), (4, .int a4), (5, .int a5), (6, .int a6)], [.int a6, .int a4, .ref 235], rf_MM w m)) (by decide +kernel) rfl trivial ?_
  refine rf_if_ne C 13 53 (by decide +kernel) (fun hc => ?_) (fun hc => ?_)
  · replace hg := (if_neg hc).symm.trans hg
    refine rf_seg C [(.aload 0, 1), (.invokeinterface 14 32, 3), (.aload 1, 1)] (pc' := 58) (S' := ([(0, .ref 206), (1, .ref a1), (3, .int a3), (4, .int a4), (5, .int a5), (6, .int a6)], [.ref a1, .ref 228, .int a4, .ref 235], rf_MM w m)) (by decide +kernel) rfl trivial ?_
    refine rf_d_getr C 12 6 (rf_isO_of q0) rfl (rf_isR_of q3) (by decide +kernel) ?_
    show rf_V 12 (rf_sh w) K 0 0 61 ([(0, .ref 206), (1, .ref a1), (3, .int a3), (4, .int a4), (5, .int a5), (6, .int a6)], [.ref (a1 + 2), .ref 228, .int a4, .ref 235], rf_MM w m)
    refine rf_seg C [(.iload 5, 2)] (pc' := 63) (S' := ([(0, .ref 206), (1, .ref a1), (3, .int a3), (4, .int a4), (5, .int a5), (6, .int a6)], [.int a5, .ref (a1 + 2), .ref 228, .int a4, .ref 235], rf_MM w m)) (by decide +kernel) rfl trivial ?_
    obtain ⟨q5, hg⟩ := rf_g_some hg
    refine rf_d_iaload C (rf_isA_of q4) (rf_in_of q5) (by decide +kernel) ?_
    show rf_V 12 (rf_sh w) K 0 0 64 ([(0, .ref 206), (1, .ref a1), (3, .int a3), (4, .int a4), (5, .int a5), (6, .int a6)], [.int (m.1 (a1 + 2) (Int32.toNatClampNeg a5)), .ref 228, .int a4, .ref 235], rf_MM w m)
    obtain ⟨q6, hg⟩ := rf_g_some hg
    refine rf_seg C [(.iaload, 1)] (pc' := 65) (S' := ([(0, .ref 206), (1, .ref a1), (3, .int a3), (4, .int a4), (5, .int a5), (6, .int a6)], [.int (m.1 228 (Int32.toNatClampNeg (m.1 (a1 + 2) (Int32.toNatClampNeg a5)))), .int a4, .ref 235], rf_MM w m)) (by decide +kernel) rfl (rf_in_of q6) ?_
    refine rf_few [0, 1, 2, 3, 4] rfl ?_
    exact s_X14_valueOf_65 C hE hr6 a1 a3 a4 a5 a4 (m.1 228 (Int32.toNatClampNeg (m.1 (a1 + 2) (Int32.toNatClampNeg a5)))) m hg
  · replace hg := (if_pos hc).symm.trans hg
    refine rf_seg C [(.aload 1, 1)] (pc' := 44) (S' := ([(0, .ref 206), (1, .ref a1), (3, .int a3), (4, .int a4), (5, .int a5), (6, .int a6)], [.ref a1, .int a4, .ref 235], rf_MM w m)) (by decide +kernel) rfl trivial ?_
    refine rf_d_getr C 12 6 (rf_isO_of q0) rfl (rf_isR_of q3) (by decide +kernel) ?_
    show rf_V 12 (rf_sh w) K 0 0 47 ([(0, .ref 206), (1, .ref a1), (3, .int a3), (4, .int a4), (5, .int a5), (6, .int a6)], [.ref (a1 + 2), .int a4, .ref 235], rf_MM w m)
    refine rf_seg C [(.iload 5, 2)] (pc' := 49) (S' := ([(0, .ref 206), (1, .ref a1), (3, .int a3), (4, .int a4), (5, .int a5), (6, .int a6)], [.int a5, .ref (a1 + 2), .int a4, .ref 235], rf_MM w m)) (by decide +kernel) rfl trivial ?_
    obtain ⟨q7, hg⟩ := rf_g_some hg
    refine rf_d_iaload C (rf_isA_of q4) (rf_in_of q7) (by decide +kernel) ?_
    show rf_V 12 (rf_sh w) K 0 0 50 ([(0, .ref 206), (1, .ref a1), (3, .int a3), (4, .int a4), (5, .int a5), (6, .int a6)], [.int (m.1 (a1 + 2) (Int32.toNatClampNeg a5)), .int a4, .ref 235], rf_MM w m)
    refine rf_goto C 15 65 (by decide +kernel) ?_
    refine rf_few [0, 1, 2, 3, 4] rfl ?_
    exact s_X14_valueOf_65 C hE hr6 a1 a3 a4 a5 a4 (m.1 (a1 + 2) (Int32.toNatClampNeg a5)) m hg
theorem s_X14_valueOf_308 {w : rf_w} {K : rf_K} {r : Int32 × rf_m} (C : rf_Ctx 14 cX14_valueOf 12 3 (rf_sh w) K) (hE : rf_End (some .int) K (rf_sh w) 0 0 (some (.int r.1)) (rf_MM w r.2)) {rec6 : Nat → Int32 → Int32 → Int32 → rf_m → Option (Int32 × rf_m)} (hr6 : ∀ (a1 : Nat) (a3 : Int32) (a4 : Int32) (a5 : Int32) (m : rf_m), rec6 a1 a3 a4 a5 m = some r → rf_V 12 (rf_sh w) K 0 0 6 ([(0, .ref 206), (1, .ref a1), (3, .int a3), (4, .int a4), (5, .int a5)], [], rf_MM w m)) (a1 : Nat) (a3 : Int32) (a4 : Int32) (a5 : Int32) (s1 : Int32) (s2 : Int32) (m : rf_m) (hg : g_X14_valueOf_308 w rec6 a1 a3 a4 a5 s1 s2 m = some r) : rf_V 12 (rf_sh w) K 0 0 308 ([(0, .ref 206), (1, .ref a1), (3, .int a3), (4, .int a4), (5, .int a5)], [.int s2, .int s1, .ref 235], rf_MM w m) := by
  unfold g_X14_valueOf_308 at hg
  obtain ⟨q0, hg⟩ := rf_g_some hg
  obtain ⟨q1, hg⟩ := rf_g_some hg
  obtain ⟨q2, hg⟩ := rf_g_some hg
  obtain ⟨q3, hg⟩ := rf_g_some hg
  obtain ⟨q4, hg⟩ := rf_g_some hg
  obtain ⟨q5, hg⟩ := rf_g_some hg
  refine rf_seg C [(.iastore, 1)] (pc' := 309) (S' := ([(0, .ref 206), (1, .ref a1), (3, .int a3), (4, .int a4), (5, .int a5)], [], rf_MM w (rf_i m 235 (Int32.toNatClampNeg s1) s2))) (by decide +kernel) rfl (rf_in_of q5) ?_
  refine rf_few [0, 1, 2, 3, 4] rfl ?_
  exact s_X14_valueOf_309 C hE hr6 a1 a3 a4 a5 (rf_i m 235 (Int32.toNatClampNeg s1) s2) hg
theorem s_X14_valueOf_237 {w : rf_w} {K : rf_K} {r : Int32 × rf_m} (C : rf_Ctx 14 cX14_valueOf 12 3 (rf_sh w) K) (hE : rf_End (some .int) K (rf_sh w) 0 0 (some (.int r.1)) (rf_MM w r.2)) {rec6 : Nat → Int32 → Int32 → Int32 → rf_m → Option (Int32 × rf_m)} (hr6 : ∀ (a1 : Nat) (a3 : Int32) (a4 : Int32) (a5 : Int32) (m : rf_m), rec6 a1 a3 a4 a5 m = some r → rf_V 12 (rf_sh w) K 0 0 6 ([(0, .ref 206), (1, .ref a1), (3, .int a3), (4, .int a4), (5, .int a5)], [], rf_MM w m)) (a1 : Nat) (a3 : Int32) (a4 : Int32) (a5 : Int32) (a6 : Int32) (a7 : Int64) (a9 : Int64) (s0 : Int32) (m : rf_m) (hg : g_X14_valueOf_237 w rec6 a1 a3 a4 a5 a6 a7 a9 s0 m = some r) : rf_V 12 (rf_sh w) K 0 0 237 ([(0, .ref 206), (1, .ref a1), (3, .int a3), (4, .int a4), (5, .int a5), (6, .int a6), (7, .long a7), (9, .long a9)], [.int s0], rf_MM w m) := by
  unfold g_X14_valueOf_237 at hg
  obtain ⟨q0, hg⟩ := rf_g_some hg
  obtain ⟨q1, hg⟩ := rf_g_some hg
  obtain ⟨q2, hg⟩ := rf_g_some hg
  obtain ⟨q3, hg⟩ := rf_g_some hg
  obtain ⟨q4, hg⟩ := rf_g_some hg
  refine rf_seg C [(.istore 11, 2), (.aload 0, 1), (.invokeinterface 14 54, 3), (.iload 4, 2), (.iconst 1, 1), (.isub, 1), (.iload 6, 2), (.iconst 2, 1)] (pc' := 250) (S' := ([(11, .int s0), (0, .ref 206), (1, .ref a1), (3, .int a3), (4, .int a4), (5, .int a5), (6, .int a6), (7, .long a7), (9, .long a9)], [.int 2, .int a6, .int (a4 - 1), .ref 235], rf_MM w m)) (by decide +kernel) rfl trivial ?_
  refine rf_icmp_ne C 14 264 (by decide +kernel) (fun hc => ?_) (fun hc => ?_)
  · replace hg := (if_neg hc).symm.trans hg
    refine rf_seg C [(.iload 6, 2), (.iconst 3, 1)] (pc' := 267) (S' := ([(11, .int s0), (0, .ref 206), (1, .ref a1), (3, .int a3), (4, .int a4), (5, .int a5), (6, .int a6), (7, .long a7), (9, .long a9)], [.int 3, .int a6, .int (a4 - 1), .ref 235], rf_MM w m)) (by decide +kernel) rfl trivial ?_
    refine rf_icmp_ne C 14 281 (by decide +kernel) (fun hc => ?_) (fun hc => ?_)
    · replace hg := (if_neg hc).symm.trans hg
      refine rf_seg C [(.iload 6, 2), (.iconst 4, 1)] (pc' := 284) (S' := ([(11, .int s0), (0, .ref 206), (1, .ref a1), (3, .int a3), (4, .int a4), (5, .int a5), (6, .int a6), (7, .long a7), (9, .long a9)], [.int 4, .int a6, .int (a4 - 1), .ref 235], rf_MM w m)) (by decide +kernel) rfl trivial ?_
      refine rf_icmp_ne C 14 298 (by decide +kernel) (fun hc => ?_) (fun hc => ?_)
      · replace hg := (if_neg hc).symm.trans hg
        refine rf_seg C [(.iload 11, 2)] (pc' := 300) (S' := ([(11, .int s0), (0, .ref 206), (1, .ref a1), (3, .int a3), (4, .int a4), (5, .int a5), (6, .int a6), (7, .long a7), (9, .long a9)], [.int s0, .int (a4 - 1), .ref 235], rf_MM w m)) (by decide +kernel) rfl trivial ?_
        refine rf_if_eq C 7 307 (by decide +kernel) (fun hc => ?_) (fun hc => ?_)
        · replace hg := (if_pos hc).symm.trans hg
          refine rf_seg C [(.iconst 0, 1)] (pc' := 308) (S' := ([(11, .int s0), (0, .ref 206), (1, .ref a1), (3, .int a3), (4, .int a4), (5, .int a5), (6, .int a6), (7, .long a7), (9, .long a9)], [.int 0, .int (a4 - 1), .ref 235], rf_MM w m)) (by decide +kernel) rfl trivial ?_
          refine rf_few [1, 2, 3, 4, 5] rfl ?_
          exact s_X14_valueOf_308 C hE hr6 a1 a3 a4 a5 (a4 - 1) 0 m hg
        · replace hg := (if_neg hc).symm.trans hg
          refine rf_seg C [(.iconst 1, 1)] (pc' := 304) (S' := ([(11, .int s0), (0, .ref 206), (1, .ref a1), (3, .int a3), (4, .int a4), (5, .int a5), (6, .int a6), (7, .long a7), (9, .long a9)], [.int 1, .int (a4 - 1), .ref 235], rf_MM w m)) (by decide +kernel) rfl trivial ?_
          refine rf_goto C 4 308 (by decide +kernel) ?_
          refine rf_few [1, 2, 3, 4, 5] rfl ?_
          exact s_X14_valueOf_308 C hE hr6 a1 a3 a4 a5 (a4 - 1) 1 m hg
      · replace hg := (if_pos hc).symm.trans hg
        refine rf_seg C [(.lload 7, 2), (.lload 9, 2), (.lmul, 1)] (pc' := 292) (S' := ([(11, .int s0), (0, .ref 206), (1, .ref a1), (3, .int a3), (4, .int a4), (5, .int a5), (6, .int a6), (7, .long a7), (9, .long a9)], [.long (a7 * a9), .int (a4 - 1), .ref 235], rf_MM w m)) (by decide +kernel) rfl trivial ?_
        obtain ⟨y5, m5, hc5, hg⟩ := rf_b_some hg
        refine rf_calls C rf_fit0 j_X14_bound (As := [.long (a7 * a9)]) (rest := [.int (a4 - 1), .ref 235]) mw_X14_bound (c_X14_bound hc5) (by decide) lk_14_652 rfl rfl (Nat.le_of_ble_eq_true rfl) (by decide +kernel) ?_
        show rf_V 12 (rf_sh w) K 0 0 295 ([(11, .int s0), (0, .ref 206), (1, .ref a1), (3, .int a3), (4, .int a4), (5, .int a5), (6, .int a6), (7, .long a7), (9, .long a9)], [.int y5, .int (a4 - 1), .ref 235], rf_MM w m5)
        refine rf_goto C 13 308 (by decide +kernel) ?_
        refine rf_few [1, 2, 3, 4, 5] rfl ?_
        exact s_X14_valueOf_308 C hE hr6 a1 a3 a4 a5 (a4 - 1) y5 m5 hg
    · replace hg := (if_pos hc).symm.trans hg
      refine rf_seg C [(.lload 7, 2), (.lload 9, 2), (.lsub, 1)] (pc' := 275) (S' := ([(11, .int s0), (0, .ref 206), (1, .ref a1), (3, .int a3), (4, .int a4), (5, .int a5), (6, .int a6), (7, .long a7), (9, .long a9)], [.long (a7 - a9), .int (a4 - 1), .ref 235], rf_MM w m)) (by decide +kernel) rfl trivial ?_
      obtain ⟨y6, m6, hc6, hg⟩ := rf_b_some hg
      refine rf_calls C rf_fit0 j_X14_bound (As := [.long (a7 - a9)]) (rest := [.int (a4 - 1), .ref 235]) mw_X14_bound (c_X14_bound hc6) (by decide) lk_14_652 rfl rfl (Nat.le_of_ble_eq_true rfl) (by decide +kernel) ?_
      show rf_V 12 (rf_sh w) K 0 0 278 ([(11, .int s0), (0, .ref 206), (1, .ref a1), (3, .int a3), (4, .int a4), (5, .int a5), (6, .int a6), (7, .long a7), (9, .long a9)], [.int y6, .int (a4 - 1), .ref 235], rf_MM w m6)
      refine rf_goto C 30 308 (by decide +kernel) ?_
      refine rf_few [1, 2, 3, 4, 5] rfl ?_
      exact s_X14_valueOf_308 C hE hr6 a1 a3 a4 a5 (a4 - 1) y6 m6 hg
  · replace hg := (if_pos hc).symm.trans hg
    refine rf_seg C [(.lload 7, 2), (.lload 9, 2), (.ladd, 1)] (pc' := 258) (S' := ([(11, .int s0), (0, .ref 206), (1, .ref a1), (3, .int a3), (4, .int a4), (5, .int a5), (6, .int a6), (7, .long a7), (9, .long a9)], [.long (a7 + a9), .int (a4 - 1), .ref 235], rf_MM w m)) (by decide +kernel) rfl trivial ?_
    obtain ⟨y7, m7, hc7, hg⟩ := rf_b_some hg
    refine rf_calls C rf_fit0 j_X14_bound (As := [.long (a7 + a9)]) (rest := [.int (a4 - 1), .ref 235]) mw_X14_bound (c_X14_bound hc7) (by decide) lk_14_652 rfl rfl (Nat.le_of_ble_eq_true rfl) (by decide +kernel) ?_
    show rf_V 12 (rf_sh w) K 0 0 261 ([(11, .int s0), (0, .ref 206), (1, .ref a1), (3, .int a3), (4, .int a4), (5, .int a5), (6, .int a6), (7, .long a7), (9, .long a9)], [.int y7, .int (a4 - 1), .ref 235], rf_MM w m7)
    refine rf_goto C 47 308 (by decide +kernel) ?_
    refine rf_few [1, 2, 3, 4, 5] rfl ?_
    exact s_X14_valueOf_308 C hE hr6 a1 a3 a4 a5 (a4 - 1) y7 m7 hg
theorem s_X14_valueOf_6_b {w : rf_w} {K : rf_K} {r : Int32 × rf_m} (C : rf_Ctx 14 cX14_valueOf 12 3 (rf_sh w) K) (hE : rf_End (some .int) K (rf_sh w) 0 0 (some (.int r.1)) (rf_MM w r.2)) {rec6 : Nat → Int32 → Int32 → Int32 → rf_m → Option (Int32 × rf_m)} (hr6 : ∀ (a1 : Nat) (a3 : Int32) (a4 : Int32) (a5 : Int32) (m : rf_m), rec6 a1 a3 a4 a5 m = some r → rf_V 12 (rf_sh w) K 0 0 6 ([(0, .ref 206), (1, .ref a1), (3, .int a3), (4, .int a4), (5, .int a5)], [], rf_MM w m)) (a1 : Nat) (a3 : Int32) (a4 : Int32) (a5 : Int32) (m : rf_m) (hg : g_X14_valueOf_6_b w rec6 a1 a3 a4 a5 m = some r) : rf_V 12 (rf_sh w) K 0 0 6 ([(0, .ref 206), (1, .ref a1), (3, .int a3), (4, .int a4), (5, .int a5)], [], rf_MM w m) := by
  unfold g_X14_valueOf_6_b at hg
  obtain ⟨q0, hg⟩ := rf_g_some hg
  obtain ⟨q1, hg⟩ := rf_g_some hg
  obtain ⟨q2, hg⟩ := rf_g_some hg
  obtain ⟨q3, hg⟩ := rf_g_some hg
  obtain ⟨q4, hg⟩ := rf_g_some hg
  refine rf_seg C [(.iload 5, 2), (.iload 3, 1)] (pc' := 9) (S' := ([(0, .ref 206), (1, .ref a1), (3, .int a3), (4, .int a4), (5, .int a5)], [.int a3, .int a5], rf_MM w m)) (by decide +kernel) rfl trivial ?_
  refine rf_icmp_ge C 306 315 (by decide +kernel) (fun hc => ?_) (fun hc => ?_)
  · replace hg := (if_pos hc).symm.trans hg
    refine rf_seg C [(.aload 0, 1), (.invokeinterface 14 54, 3), (.iconst 0, 1), (.iaload, 1)] (pc' := 321) (S' := ([(0, .ref 206), (1, .ref a1), (3, .int a3), (4, .int a4), (5, .int a5)], [.int (m.1 235 (Int32.toNatClampNeg 0))], rf_MM w m)) (by decide +kernel) rfl (rf_in_of (by decide)) ?_
    obtain rfl := Option.some.inj hg
    exact rf_iret C hE (by decide +kernel)
  · replace hg := (if_neg hc).symm.trans hg
    refine rf_seg C [(.aload 1, 1)] (pc' := 13) (S' := ([(0, .ref 206), (1, .ref a1), (3, .int a3), (4, .int a4), (5, .int a5)], [.ref a1], rf_MM w m)) (by decide +kernel) rfl trivial ?_
    refine rf_d_getr C 12 5 (rf_isO_of q0) rfl (rf_isR_of q1) (by decide +kernel) ?_
    show rf_V 12 (rf_sh w) K 0 0 16 ([(0, .ref 206), (1, .ref a1), (3, .int a3), (4, .int a4), (5, .int a5)], [.ref (a1 + 1)], rf_MM w m)
    refine rf_seg C [(.iload 5, 2)] (pc' := 18) (S' := ([(0, .ref 206), (1, .ref a1), (3, .int a3), (4, .int a4), (5, .int a5)], [.int a5, .ref (a1 + 1)], rf_MM w m)) (by decide +kernel) rfl trivial ?_
    obtain ⟨q5, hg⟩ := rf_g_some hg
    refine rf_d_iaload C (rf_isA_of q2) (rf_in_of q5) (by decide +kernel) ?_
    show rf_V 12 (rf_sh w) K 0 0 19 ([(0, .ref 206), (1, .ref a1), (3, .int a3), (4, .int a4), (5, .int a5)], [.int (m.1 (a1 + 1) (Int32.toNatClampNeg a5))], rf_MM w m)
    obtain ⟨x6, hx6, hg⟩ := rf_vi_some hg
    refine rf_vi_top hx6 ?_
    refine rf_seg C [(.istore 6, 2), (.iload 6, 2)] (pc' := 23) (S' := ([(6, .int x6), (0, .ref 206), (1, .ref a1), (3, .int a3), (4, .int a4), (5, .int a5)], [.int x6], rf_MM w m)) (by decide +kernel) rfl trivial ?_
    refine rf_if_eq C 9 32 (by decide +kernel) (fun hc => ?_) (fun hc => ?_)
    · replace hg := (if_pos hc).symm.trans hg
      refine rf_few [1, 2, 3, 4, 5, 0] rfl ?_
      exact s_X14_valueOf_32 C hE hr6 a1 a3 a4 a5 x6 m hg
    · replace hg := (if_neg hc).symm.trans hg
      refine rf_seg C [(.iload 6, 2), (.iconst 1, 1)] (pc' := 29) (S' := ([(6, .int x6), (0, .ref 206), (1, .ref a1), (3, .int a3), (4, .int a4), (5, .int a5)], [.int 1, .int x6], rf_MM w m)) (by decide +kernel) rfl trivial ?_
      refine rf_icmp_ne C 43 72 (by decide +kernel) (fun hc => ?_) (fun hc => ?_)
      · replace hg := (if_neg hc).symm.trans hg
        refine rf_seg C [(.iload 6, 2), (.iconst 8, 2)] (pc' := 76) (S' := ([(6, .int x6), (0, .ref 206), (1, .ref a1), (3, .int a3), (4, .int a4), (5, .int a5)], [.int 8, .int x6], rf_MM w m)) (by decide +kernel) rfl trivial ?_
        refine rf_icmp_ne C 26 102 (by decide +kernel) (fun hc => ?_) (fun hc => ?_)
        · replace hg := (if_neg hc).symm.trans hg
          obtain ⟨q7, hg⟩ := rf_g_some hg
          refine rf_seg C [(.iinc 4 (-1), 3), (.aload 0, 1), (.invokeinterface 14 54, 3), (.iload 4, 2), (.iconst 1, 1), (.isub, 1), (.iaload, 1), (.i2l, 1)] (pc' := 115) (S' := ([(4, .int (a4 + (-1))), (6, .int x6), (0, .ref 206), (1, .ref a1), (3, .int a3), (5, .int a5)], [.long (Int32.toInt64 (m.1 235 (Int32.toNatClampNeg ((a4 + (-1)) - 1))))], rf_MM w m)) (by decide +kernel) rfl (rf_in_of q7) ?_
          obtain ⟨x8, hx8, hg⟩ := rf_vl_some hg
          refine rf_vl_top hx8 ?_
          obtain ⟨q9, hg⟩ := rf_g_some hg
          refine rf_seg C [(.lstore 7, 2), (.aload 0, 1), (.invokeinterface 14 54, 3), (.iload 4, 2), (.iaload, 1), (.i2l, 1)] (pc' := 125) (S' := ([(7, .long x8), (4, .int (a4 + (-1))), (6, .int x6), (0, .ref 206), (1, .ref a1), (3, .int a3), (5, .int a5)], [.long (Int32.toInt64 (m.1 235 (Int32.toNatClampNeg (a4 + (-1)))))], rf_MM w m)) (by decide +kernel) rfl (rf_in_of q9) ?_
          obtain ⟨x10, hx10, hg⟩ := rf_vl_some hg
          refine rf_vl_top hx10 ?_
          refine rf_seg C [(.lstore 9, 2), (.iload 6, 2), (.iconst 5, 1)] (pc' := 130) (S' := ([(9, .long x10), (7, .long x8), (4, .int (a4 + (-1))), (6, .int x6), (0, .ref 206), (1, .ref a1), (3, .int a3), (5, .int a5)], [.int 5, .int x6], rf_MM w m)) (by decide +kernel) rfl trivial ?_
          refine rf_icmp_ne C 19 149 (by decide +kernel) (fun hc => ?_) (fun hc => ?_)
          · replace hg := (if_neg hc).symm.trans hg
            refine rf_seg C [(.iload 6, 2), (.iconst 6, 2)] (pc' := 153) (S' := ([(9, .long x10), (7, .long x8), (4, .int (a4 + (-1))), (6, .int x6), (0, .ref 206), (1, .ref a1), (3, .int a3), (5, .int a5)], [.int 6, .int x6], rf_MM w m)) (by decide +kernel) rfl trivial ?_
            refine rf_icmp_ne C 19 172 (by decide +kernel) (fun hc => ?_) (fun hc => ?_)
            · replace hg := (if_neg hc).symm.trans hg
              refine rf_seg C [(.iload 6, 2), (.iconst 7, 2)] (pc' := 176) (S' := ([(9, .long x10), (7, .long x8), (4, .int (a4 + (-1))), (6, .int x6), (0, .ref 206), (1, .ref a1), (3, .int a3), (5, .int a5)], [.int 7, .int x6], rf_MM w m)) (by decide +kernel) rfl trivial ?_
              refine rf_icmp_ne C 19 195 (by decide +kernel) (fun hc => ?_) (fun hc => ?_)
              · replace hg := (if_neg hc).symm.trans hg
                refine rf_seg C [(.iload 6, 2), (.iconst 9, 2)] (pc' := 199) (S' := ([(9, .long x10), (7, .long x8), (4, .int (a4 + (-1))), (6, .int x6), (0, .ref 206), (1, .ref a1), (3, .int a3), (5, .int a5)], [.int 9, .int x6], rf_MM w m)) (by decide +kernel) rfl trivial ?_
                refine rf_icmp_ne C 23 222 (by decide +kernel) (fun hc => ?_) (fun hc => ?_)
                · replace hg := (if_neg hc).symm.trans hg
                  refine rf_seg C [(.lload 7, 2), (.lload 9, 2), (.ladd, 1), (.goto_w 0, 1), (.lcmp, 1)] (pc' := 229) (S' := ([(9, .long x10), (7, .long x8), (4, .int (a4 + (-1))), (6, .int x6), (0, .ref 206), (1, .ref a1), (3, .int a3), (5, .int a5)], [.int (lg_cmp (x8 + x10) 0)], rf_MM w m)) (by decide +kernel) rfl trivial ?_
                  refine rf_if_le C 7 236 (by decide +kernel) (fun hc => ?_) (fun hc => ?_)
                  · replace hg := (if_pos hc).symm.trans hg
                    refine rf_seg C [(.iconst 0, 1)] (pc' := 237) (S' := ([(9, .long x10), (7, .long x8), (4, .int (a4 + (-1))), (6, .int x6), (0, .ref 206), (1, .ref a1), (3, .int a3), (5, .int a5)], [.int 0], rf_MM w m)) (by decide +kernel) rfl trivial ?_
                    refine rf_few [4, 5, 6, 2, 7, 3, 1, 0] rfl ?_
                    exact s_X14_valueOf_237 C hE hr6 a1 a3 (a4 + (-1)) a5 x6 x8 x10 0 m hg
                  · replace hg := (if_neg hc).symm.trans hg
                    refine rf_seg C [(.iconst 1, 1)] (pc' := 233) (S' := ([(9, .long x10), (7, .long x8), (4, .int (a4 + (-1))), (6, .int x6), (0, .ref 206), (1, .ref a1), (3, .int a3), (5, .int a5)], [.int 1], rf_MM w m)) (by decide +kernel) rfl trivial ?_
                    refine rf_goto C 4 237 (by decide +kernel) ?_
                    refine rf_few [4, 5, 6, 2, 7, 3, 1, 0] rfl ?_
                    exact s_X14_valueOf_237 C hE hr6 a1 a3 (a4 + (-1)) a5 x6 x8 x10 1 m hg
                · replace hg := (if_pos hc).symm.trans hg
                  refine rf_seg C [(.lload 7, 2), (.lload 9, 2), (.ladd, 1), (.goto_w 2, 3), (.lcmp, 1)] (pc' := 211) (S' := ([(9, .long x10), (7, .long x8), (4, .int (a4 + (-1))), (6, .int x6), (0, .ref 206), (1, .ref a1), (3, .int a3), (5, .int a5)], [.int (lg_cmp (x8 + x10) 2)], rf_MM w m)) (by decide +kernel) rfl trivial ?_
                  refine rf_if_ne C 7 218 (by decide +kernel) (fun hc => ?_) (fun hc => ?_)
                  · replace hg := (if_neg hc).symm.trans hg
                    refine rf_seg C [(.iconst 0, 1)] (pc' := 219) (S' := ([(9, .long x10), (7, .long x8), (4, .int (a4 + (-1))), (6, .int x6), (0, .ref 206), (1, .ref a1), (3, .int a3), (5, .int a5)], [.int 0], rf_MM w m)) (by decide +kernel) rfl trivial ?_
                    refine rf_goto C 18 237 (by decide +kernel) ?_
                    refine rf_few [4, 5, 6, 2, 7, 3, 1, 0] rfl ?_
                    exact s_X14_valueOf_237 C hE hr6 a1 a3 (a4 + (-1)) a5 x6 x8 x10 0 m hg
                  · replace hg := (if_pos hc).symm.trans hg
                    refine rf_seg C [(.iconst 1, 1)] (pc' := 215) (S' := ([(9, .long x10), (7, .long x8), (4, .int (a4 + (-1))), (6, .int x6), (0, .ref 206), (1, .ref a1), (3, .int a3), (5, .int a5)], [.int 1], rf_MM w m)) (by decide +kernel) rfl trivial ?_
                    refine rf_goto C 22 237 (by decide +kernel) ?_
                    refine rf_few [4, 5, 6, 2, 7, 3, 1, 0] rfl ?_
                    exact s_X14_valueOf_237 C hE hr6 a1 a3 (a4 + (-1)) a5 x6 x8 x10 1 m hg
              · replace hg := (if_pos hc).symm.trans hg
                refine rf_seg C [(.lload 7, 2), (.lload 9, 2), (.lcmp, 1)] (pc' := 184) (S' := ([(9, .long x10), (7, .long x8), (4, .int (a4 + (-1))), (6, .int x6), (0, .ref 206), (1, .ref a1), (3, .int a3), (5, .int a5)], [.int (lg_cmp x8 x10)], rf_MM w m)) (by decide +kernel) rfl trivial ?_
                refine rf_if_ne C 7 191 (by decide +kernel) (fun hc => ?_) (fun hc => ?_)
                · replace hg := (if_neg hc).symm.trans hg
                  refine rf_seg C [(.iconst 0, 1)] (pc' := 192) (S' := ([(9, .long x10), (7, .long x8), (4, .int (a4 + (-1))), (6, .int x6), (0, .ref 206), (1, .ref a1), (3, .int a3), (5, .int a5)], [.int 0], rf_MM w m)) (by decide +kernel) rfl trivial ?_
                  refine rf_goto C 45 237 (by decide +kernel) ?_
                  refine rf_few [4, 5, 6, 2, 7, 3, 1, 0] rfl ?_
                  exact s_X14_valueOf_237 C hE hr6 a1 a3 (a4 + (-1)) a5 x6 x8 x10 0 m hg
                · replace hg := (if_pos hc).symm.trans hg
                  refine rf_seg C [(.iconst 1, 1)] (pc' := 188) (S' := ([(9, .long x10), (7, .long x8), (4, .int (a4 + (-1))), (6, .int x6), (0, .ref 206), (1, .ref a1), (3, .int a3), (5, .int a5)], [.int 1], rf_MM w m)) (by decide +kernel) rfl trivial ?_
                  refine rf_goto C 49 237 (by decide +kernel) ?_
                  refine rf_few [4, 5, 6, 2, 7, 3, 1, 0] rfl ?_
                  exact s_X14_valueOf_237 C hE hr6 a1 a3 (a4 + (-1)) a5 x6 x8 x10 1 m hg
            · replace hg := (if_pos hc).symm.trans hg
              refine rf_seg C [(.lload 7, 2), (.lload 9, 2), (.lcmp, 1)] (pc' := 161) (S' := ([(9, .long x10), (7, .long x8), (4, .int (a4 + (-1))), (6, .int x6), (0, .ref 206), (1, .ref a1), (3, .int a3), (5, .int a5)], [.int (lg_cmp x8 x10)], rf_MM w m)) (by decide +kernel) rfl trivial ?_
              refine rf_if_le C 7 168 (by decide +kernel) (fun hc => ?_) (fun hc => ?_)
              · replace hg := (if_pos hc).symm.trans hg
                refine rf_seg C [(.iconst 0, 1)] (pc' := 169) (S' := ([(9, .long x10), (7, .long x8), (4, .int (a4 + (-1))), (6, .int x6), (0, .ref 206), (1, .ref a1), (3, .int a3), (5, .int a5)], [.int 0], rf_MM w m)) (by decide +kernel) rfl trivial ?_
                refine rf_goto C 68 237 (by decide +kernel) ?_
                refine rf_few [4, 5, 6, 2, 7, 3, 1, 0] rfl ?_
                exact s_X14_valueOf_237 C hE hr6 a1 a3 (a4 + (-1)) a5 x6 x8 x10 0 m hg
              · replace hg := (if_neg hc).symm.trans hg
                refine rf_seg C [(.iconst 1, 1)] (pc' := 165) (S' := ([(9, .long x10), (7, .long x8), (4, .int (a4 + (-1))), (6, .int x6), (0, .ref 206), (1, .ref a1), (3, .int a3), (5, .int a5)], [.int 1], rf_MM w m)) (by decide +kernel) rfl trivial ?_
                refine rf_goto C 72 237 (by decide +kernel) ?_
                refine rf_few [4, 5, 6, 2, 7, 3, 1, 0] rfl ?_
                exact s_X14_valueOf_237 C hE hr6 a1 a3 (a4 + (-1)) a5 x6 x8 x10 1 m hg
          · replace hg := (if_pos hc).symm.trans hg
            refine rf_seg C [(.lload 7, 2), (.lload 9, 2), (.lcmp, 1)] (pc' := 138) (S' := ([(9, .long x10), (7, .long x8), (4, .int (a4 + (-1))), (6, .int x6), (0, .ref 206), (1, .ref a1), (3, .int a3), (5, .int a5)], [.int (lg_cmp x8 x10)], rf_MM w m)) (by decide +kernel) rfl trivial ?_
            refine rf_if_ge C 7 145 (by decide +kernel) (fun hc => ?_) (fun hc => ?_)
            · replace hg := (if_pos hc).symm.trans hg
              refine rf_seg C [(.iconst 0, 1)] (pc' := 146) (S' := ([(9, .long x10), (7, .long x8), (4, .int (a4 + (-1))), (6, .int x6), (0, .ref 206), (1, .ref a1), (3, .int a3), (5, .int a5)], [.int 0], rf_MM w m)) (by decide +kernel) rfl trivial ?_
              refine rf_goto C 91 237 (by decide +kernel) ?_
              refine rf_few [4, 5, 6, 2, 7, 3, 1, 0] rfl ?_
              exact s_X14_valueOf_237 C hE hr6 a1 a3 (a4 + (-1)) a5 x6 x8 x10 0 m hg
            · replace hg := (if_neg hc).symm.trans hg
              refine rf_seg C [(.iconst 1, 1)] (pc' := 142) (S' := ([(9, .long x10), (7, .long x8), (4, .int (a4 + (-1))), (6, .int x6), (0, .ref 206), (1, .ref a1), (3, .int a3), (5, .int a5)], [.int 1], rf_MM w m)) (by decide +kernel) rfl trivial ?_
              refine rf_goto C 95 237 (by decide +kernel) ?_
              refine rf_few [4, 5, 6, 2, 7, 3, 1, 0] rfl ?_
              exact s_X14_valueOf_237 C hE hr6 a1 a3 (a4 + (-1)) a5 x6 x8 x10 1 m hg
        · replace hg := (if_pos hc).symm.trans hg
          obtain ⟨q11, hg⟩ := rf_g_some hg
          obtain ⟨q12, hg⟩ := rf_g_some hg
          refine rf_seg C [(.aload 0, 1), (.invokeinterface 14 54, 3), (.iload 4, 2), (.iconst 1, 1), (.isub, 1), (.iconst 1, 1), (.aload 0, 1), (.invokeinterface 14 54, 3), (.iload 4, 2), (.iconst 1, 1), (.isub, 1), (.iaload, 1), (.isub, 1), (.iastore, 1)] (pc' := 99) (S' := ([(6, .int x6), (0, .ref 206), (1, .ref a1), (3, .int a3), (4, .int a4), (5, .int a5)], [], rf_MM w (rf_i m 235 (Int32.toNatClampNeg (a4 - 1)) (1 - (m.1 235 (Int32.toNatClampNeg (a4 - 1))))))) (by decide +kernel) rfl (by exact ⟨(rf_in_of q11), (rf_in_of q12)⟩) ?_
          refine rf_goto C 210 309 (by decide +kernel) ?_
          refine rf_few [1, 2, 3, 4, 5] rfl ?_
          exact s_X14_valueOf_309 C hE hr6 a1 a3 a4 a5 (rf_i m 235 (Int32.toNatClampNeg (a4 - 1)) (1 - (m.1 235 (Int32.toNatClampNeg (a4 - 1))))) hg
      · replace hg := (if_pos hc).symm.trans hg
        refine rf_few [1, 2, 3, 4, 5, 0] rfl ?_
        exact s_X14_valueOf_32 C hE hr6 a1 a3 a4 a5 x6 m hg
theorem s_X14_valueOf_6 {w : rf_w} {K : rf_K} {r : Int32 × rf_m} (C : rf_Ctx 14 cX14_valueOf 12 3 (rf_sh w) K) (hE : rf_End (some .int) K (rf_sh w) 0 0 (some (.int r.1)) (rf_MM w r.2)) (n : Nat) : ∀ (a1 : Nat) (a3 : Int32) (a4 : Int32) (a5 : Int32) (m : rf_m), g_X14_valueOf_6 w n a1 a3 a4 a5 m = some r → rf_V 12 (rf_sh w) K 0 0 6 ([(0, .ref 206), (1, .ref a1), (3, .int a3), (4, .int a4), (5, .int a5)], [], rf_MM w m) := by
  induction n with
  | zero => intro a1 a3 a4 a5 m hg; cases hg
  | succ n ih => intro a1 a3 a4 a5 m hg; exact s_X14_valueOf_6_b C hE ih a1 a3 a4 a5 m hg
theorem c_X14_valueOf {w : rf_w} {m : rf_m} {a1 : Nat} {a2 : Int32} {a3 : Int32} {r : Int32 × rf_m} (hg : g_X14_valueOf w m a1 a2 a3 = some r) : rf_Con j_X14_valueOf 3 (rf_sh w) [.ref 206, .ref a1, .int a2, .int a3] (rf_MM w m) (some (.int r.1)) (rf_MM w r.2) := by
  refine rf_con j_X14_valueOf 3 ⟨by decide +kernel, rfl, Nat.le_of_ble_eq_true rfl⟩ (fun K C hE => ?_)
  unfold g_X14_valueOf at hg
  show rf_V 12 (rf_sh w) K 0 0 0 ([(0, .ref 206), (1, .ref a1), (2, .int a2), (3, .int a3)], [], rf_MM w m)
  obtain ⟨q0, hg⟩ := rf_g_some hg
  obtain ⟨q1, hg⟩ := rf_g_some hg
  obtain ⟨q2, hg⟩ := rf_g_some hg
  obtain ⟨q3, hg⟩ := rf_g_some hg
  obtain ⟨q4, hg⟩ := rf_g_some hg
  refine rf_seg C [(.iconst 0, 1), (.istore 4, 2), (.iload 2, 1), (.istore 5, 2)] (pc' := 6) (S' := ([(5, .int a2), (4, .int 0), (0, .ref 206), (1, .ref a1), (2, .int a2), (3, .int a3)], [], rf_MM w m)) (by decide +kernel) rfl trivial ?_
  refine rf_few [2, 3, 5, 1, 0] rfl ?_
  exact s_X14_valueOf_6 C hE rf_fuel a1 a3 0 a2 m hg
-- X14_testOf
abbrev j_X14_testOf : rf_J := (14, yX14_testOf, cX14_testOf, 2, (some .boolean))
theorem mw_X14_testOf : rf_mv j_X14_testOf (rf_R 14) 1 := ⟨⟨rf_mem 29 (by decide +kernel), rf_mem 29 (by decide +kernel), rf_mem 0 (by decide +kernel), rf_mem 29 (by decide +kernel)⟩, by decide +kernel, by decide⟩
def g_X14_testOf (w : rf_w) (m : rf_m) (a1 : Nat) : Option (Int32 × rf_m) := rf_g (rf_isO w a1 12) (rf_g (rf_isR w a1 5 (a1 + 1)) (rf_g (rf_isA w (a1 + 1) .int 300) (rf_g (rf_isR w a1 6 (a1 + 2)) (rf_g (rf_isA w (a1 + 2) .int 300) ((if (m.1 a1 3) = (m.1 a1 4) then some (1, m) else rf_b (g_X14_valueOf w m a1 (m.1 a1 4) (m.1 a1 3)) fun y5 m5 => (if y5 = 1 then some (1, m5) else some (0, m5))))))))
theorem c_X14_testOf {w : rf_w} {m : rf_m} {a1 : Nat} {r : Int32 × rf_m} (hg : g_X14_testOf w m a1 = some r) : rf_Con j_X14_testOf 4 (rf_sh w) [.ref 206, .ref a1] (rf_MM w m) (some (.int r.1)) (rf_MM w r.2) := by
  refine rf_con j_X14_testOf 4 ⟨by decide +kernel, rfl, Nat.le_of_ble_eq_true rfl⟩ (fun K C hE => ?_)
  unfold g_X14_testOf at hg
  show rf_V 2 (rf_sh w) K 0 0 0 ([(0, .ref 206), (1, .ref a1)], [], rf_MM w m)
  obtain ⟨q0, hg⟩ := rf_g_some hg
  obtain ⟨q1, hg⟩ := rf_g_some hg
  obtain ⟨q2, hg⟩ := rf_g_some hg
  obtain ⟨q3, hg⟩ := rf_g_some hg
  obtain ⟨q4, hg⟩ := rf_g_some hg
  refine rf_seg C [(.aload 1, 1)] (pc' := 1) (S' := ([(0, .ref 206), (1, .ref a1)], [.ref a1], rf_MM w m)) (by decide +kernel) rfl trivial ?_
  refine rf_d_get C 12 3 (rf_isO_of q0) (by decide +kernel) ?_
  show rf_V 2 (rf_sh w) K 0 0 4 ([(0, .ref 206), (1, .ref a1)], [.int (m.1 a1 3)], rf_MM w m)
  refine rf_seg C [(.aload 1, 1)] (pc' := 5) (S' := ([(0, .ref 206), (1, .ref a1)], [.ref a1, .int (m.1 a1 3)], rf_MM w m)) (by decide +kernel) rfl trivial ?_
  refine rf_d_get C 12 4 (rf_isO_of q0) (by decide +kernel) ?_
  show rf_V 2 (rf_sh w) K 0 0 8 ([(0, .ref 206), (1, .ref a1)], [.int (m.1 a1 4), .int (m.1 a1 3)], rf_MM w m)
  refine rf_icmp_eq C 20 28 (by decide +kernel) (fun hc => ?_) (fun hc => ?_)
  · replace hg := (if_pos hc).symm.trans hg
    refine rf_seg C [(.iconst 1, 1)] (pc' := 29) (S' := ([(0, .ref 206), (1, .ref a1)], [.int 1], rf_MM w m)) (by decide +kernel) rfl trivial ?_
    refine rf_goto C 4 33 (by decide +kernel) ?_
    obtain rfl := Option.some.inj hg
    exact rf_zret C hE (by decide) (by decide +kernel)
  · replace hg := (if_neg hc).symm.trans hg
    refine rf_seg C [(.aload 0, 1), (.aload 1, 1), (.aload 1, 1)] (pc' := 14) (S' := ([(0, .ref 206), (1, .ref a1)], [.ref a1, .ref a1, .ref 206], rf_MM w m)) (by decide +kernel) rfl trivial ?_
    refine rf_d_get C 12 4 (rf_isO_of q0) (by decide +kernel) ?_
    show rf_V 2 (rf_sh w) K 0 0 17 ([(0, .ref 206), (1, .ref a1)], [.int (m.1 a1 4), .ref a1, .ref 206], rf_MM w m)
    refine rf_seg C [(.aload 1, 1)] (pc' := 18) (S' := ([(0, .ref 206), (1, .ref a1)], [.ref a1, .int (m.1 a1 4), .ref a1, .ref 206], rf_MM w m)) (by decide +kernel) rfl trivial ?_
    refine rf_d_get C 12 3 (rf_isO_of q0) (by decide +kernel) ?_
    show rf_V 2 (rf_sh w) K 0 0 21 ([(0, .ref 206), (1, .ref a1)], [.int (m.1 a1 3), .int (m.1 a1 4), .ref a1, .ref 206], rf_MM w m)
    obtain ⟨y5, m5, hc5, hg⟩ := rf_b_some hg
    refine rf_callv C rf_fit0 j_X14_valueOf (ci := 14) (As := [.ref a1, .int (m.1 a1 4), .int (m.1 a1 3)]) (rest := []) mw_X14_valueOf (c_X14_valueOf hc5) (by decide) rfl (by decide) lk_14_656 rfl rfl (Nat.le_of_ble_eq_true rfl) (by decide +kernel) ?_
    show rf_V 2 (rf_sh w) K 0 0 24 ([(0, .ref 206), (1, .ref a1)], [.int y5], rf_MM w m5)
    refine rf_seg C [(.iconst 1, 1)] (pc' := 25) (S' := ([(0, .ref 206), (1, .ref a1)], [.int 1, .int y5], rf_MM w m5)) (by decide +kernel) rfl trivial ?_
    refine rf_icmp_ne C 7 32 (by decide +kernel) (fun hc => ?_) (fun hc => ?_)
    · replace hg := (if_neg hc).symm.trans hg
      refine rf_seg C [(.iconst 0, 1)] (pc' := 33) (S' := ([(0, .ref 206), (1, .ref a1)], [.int 0], rf_MM w m5)) (by decide +kernel) rfl trivial ?_
      obtain rfl := Option.some.inj hg
      exact rf_zret C hE (by decide) (by decide +kernel)
    · replace hg := (if_pos hc).symm.trans hg
      refine rf_seg C [(.iconst 1, 1)] (pc' := 29) (S' := ([(0, .ref 206), (1, .ref a1)], [.int 1], rf_MM w m5)) (by decide +kernel) rfl trivial ?_
      refine rf_goto C 4 33 (by decide +kernel) ?_
      obtain rfl := Option.some.inj hg
      exact rf_zret C hE (by decide) (by decide +kernel)
-- X14_strikerOf
abbrev j_X14_strikerOf : rf_J := (14, yX14_strikerOf, cX14_strikerOf, 3, (some .int))
theorem mw_X14_strikerOf : rf_mv j_X14_strikerOf (rf_R 14) 1 := ⟨⟨rf_mem 29 (by decide +kernel), rf_mem 29 (by decide +kernel), rf_mem 0 (by decide +kernel), rf_mem 29 (by decide +kernel)⟩, by decide +kernel, by decide⟩
def g_X14_strikerOf_144 (w : rf_w) (rec95 : Int32 → Int32 → rf_m → Option (Int32 × rf_m)) (a1 : Int32) (a2 : Int32) (m : rf_m) : Option (Int32 × rf_m) := rec95 a1 (a2 + 1) m
def g_X14_strikerOf_95_b (w : rf_w) (rec95 : Int32 → Int32 → rf_m → Option (Int32 × rf_m)) (a1 : Int32) (a2 : Int32) (m : rf_m) : Option (Int32 × rf_m) := (if (m.1 206 39) ≤ a2 then some ((-2), m) else rf_g (rf_in a2 24) (rf_o (rf_Rt w 229 (Int32.toNatClampNeg a2)) fun k1 => rf_g (rf_isO w k1 12) (rf_g (rf_isR w k1 5 (k1 + 1)) (rf_g (rf_isA w (k1 + 1) .int 300) (rf_g (rf_isR w k1 6 (k1 + 2)) (rf_g (rf_isA w (k1 + 2) .int 300) ((if (m.1 k1 0) = 0 then rf_g (rf_in a1 1200) (rf_b (g_X14_isInForce w m a2 (m.1 224 (Int32.toNatClampNeg a1))) fun y8 m8 => (if y8 = 0 then g_X14_strikerOf_144 w rec95 a1 a2 m8 else rf_g (rf_in a2 24) (rf_o (rf_Rt w 229 (Int32.toNatClampNeg a2)) fun k10 => rf_g (rf_isO w k10 12) (rf_g (rf_isR w k10 5 (k10 + 1)) (rf_g (rf_isA w (k10 + 1) .int 300) (rf_g (rf_isR w k10 6 (k10 + 2)) (rf_g (rf_isA w (k10 + 2) .int 300) (rf_b (g_X14_testOf w m8 k10) fun y16 m16 => (if y16 = 0 then g_X14_strikerOf_144 w rec95 a1 a2 m16 else some (a2, m16)))))))))) else g_X14_strikerOf_144 w rec95 a1 a2 m))))))))
def g_X14_strikerOf_95 (w : rf_w) : Nat → Int32 → Int32 → rf_m → Option (Int32 × rf_m)
  | 0, _, _, _ => none
  | n + 1, a1, a2, m => g_X14_strikerOf_95_b w (g_X14_strikerOf_95 w n) a1 a2 m
def g_X14_strikerOf_2_b (w : rf_w) (rec2 : Int32 → Int32 → rf_m → Option (Int32 × rf_m)) (a1 : Int32) (a2 : Int32) (m : rf_m) : Option (Int32 × rf_m) := (if 7 ≤ a2 then rf_g (rf_in a1 1200) (rf_b (g_abs w m ((m.1 221 (Int32.toNatClampNeg a1)) - (m.1 206 35))) fun y1 m1 => rf_g (rf_in a1 1200) (rf_g (rf_in a1 1200) (rf_g (rf_in a1 1200) (rf_g (rf_in ((rf_i (rf_i (rf_i (rf_i m1 228 (Int32.toNatClampNeg 0) y1) 228 (Int32.toNatClampNeg 1) ((rf_i m1 228 (Int32.toNatClampNeg 0) y1).1 222 (Int32.toNatClampNeg a1))) 228 (Int32.toNatClampNeg 2) ((rf_i (rf_i m1 228 (Int32.toNatClampNeg 0) y1) 228 (Int32.toNatClampNeg 1) ((rf_i m1 228 (Int32.toNatClampNeg 0) y1).1 222 (Int32.toNatClampNeg a1))).1 223 (Int32.toNatClampNeg a1))) 228 (Int32.toNatClampNeg 3) ((rf_i (rf_i (rf_i m1 228 (Int32.toNatClampNeg 0) y1) 228 (Int32.toNatClampNeg 1) ((rf_i m1 228 (Int32.toNatClampNeg 0) y1).1 222 (Int32.toNatClampNeg a1))) 228 (Int32.toNatClampNeg 2) ((rf_i (rf_i m1 228 (Int32.toNatClampNeg 0) y1) 228 (Int32.toNatClampNeg 1) ((rf_i m1 228 (Int32.toNatClampNeg 0) y1).1 222 (Int32.toNatClampNeg a1))).1 223 (Int32.toNatClampNeg a1))).1 206 33)).1 220 (Int32.toNatClampNeg a1)) 80) (g_X14_strikerOf_95 w rf_fuel a1 0 (rf_i (rf_i (rf_i (rf_i (rf_i m1 228 (Int32.toNatClampNeg 0) y1) 228 (Int32.toNatClampNeg 1) ((rf_i m1 228 (Int32.toNatClampNeg 0) y1).1 222 (Int32.toNatClampNeg a1))) 228 (Int32.toNatClampNeg 2) ((rf_i (rf_i m1 228 (Int32.toNatClampNeg 0) y1) 228 (Int32.toNatClampNeg 1) ((rf_i m1 228 (Int32.toNatClampNeg 0) y1).1 222 (Int32.toNatClampNeg a1))).1 223 (Int32.toNatClampNeg a1))) 228 (Int32.toNatClampNeg 3) ((rf_i (rf_i (rf_i m1 228 (Int32.toNatClampNeg 0) y1) 228 (Int32.toNatClampNeg 1) ((rf_i m1 228 (Int32.toNatClampNeg 0) y1).1 222 (Int32.toNatClampNeg a1))) 228 (Int32.toNatClampNeg 2) ((rf_i (rf_i m1 228 (Int32.toNatClampNeg 0) y1) 228 (Int32.toNatClampNeg 1) ((rf_i m1 228 (Int32.toNatClampNeg 0) y1).1 222 (Int32.toNatClampNeg a1))).1 223 (Int32.toNatClampNeg a1))).1 206 33)) 228 (Int32.toNatClampNeg 6) ((rf_i (rf_i (rf_i (rf_i m1 228 (Int32.toNatClampNeg 0) y1) 228 (Int32.toNatClampNeg 1) ((rf_i m1 228 (Int32.toNatClampNeg 0) y1).1 222 (Int32.toNatClampNeg a1))) 228 (Int32.toNatClampNeg 2) ((rf_i (rf_i m1 228 (Int32.toNatClampNeg 0) y1) 228 (Int32.toNatClampNeg 1) ((rf_i m1 228 (Int32.toNatClampNeg 0) y1).1 222 (Int32.toNatClampNeg a1))).1 223 (Int32.toNatClampNeg a1))) 228 (Int32.toNatClampNeg 3) ((rf_i (rf_i (rf_i m1 228 (Int32.toNatClampNeg 0) y1) 228 (Int32.toNatClampNeg 1) ((rf_i m1 228 (Int32.toNatClampNeg 0) y1).1 222 (Int32.toNatClampNeg a1))) 228 (Int32.toNatClampNeg 2) ((rf_i (rf_i m1 228 (Int32.toNatClampNeg 0) y1) 228 (Int32.toNatClampNeg 1) ((rf_i m1 228 (Int32.toNatClampNeg 0) y1).1 222 (Int32.toNatClampNeg a1))).1 223 (Int32.toNatClampNeg a1))).1 206 33)).1 217 (Int32.toNatClampNeg ((rf_i (rf_i (rf_i (rf_i m1 228 (Int32.toNatClampNeg 0) y1) 228 (Int32.toNatClampNeg 1) ((rf_i m1 228 (Int32.toNatClampNeg 0) y1).1 222 (Int32.toNatClampNeg a1))) 228 (Int32.toNatClampNeg 2) ((rf_i (rf_i m1 228 (Int32.toNatClampNeg 0) y1) 228 (Int32.toNatClampNeg 1) ((rf_i m1 228 (Int32.toNatClampNeg 0) y1).1 222 (Int32.toNatClampNeg a1))).1 223 (Int32.toNatClampNeg a1))) 228 (Int32.toNatClampNeg 3) ((rf_i (rf_i (rf_i m1 228 (Int32.toNatClampNeg 0) y1) 228 (Int32.toNatClampNeg 1) ((rf_i m1 228 (Int32.toNatClampNeg 0) y1).1 222 (Int32.toNatClampNeg a1))) 228 (Int32.toNatClampNeg 2) ((rf_i (rf_i m1 228 (Int32.toNatClampNeg 0) y1) 228 (Int32.toNatClampNeg 1) ((rf_i m1 228 (Int32.toNatClampNeg 0) y1).1 222 (Int32.toNatClampNeg a1))).1 223 (Int32.toNatClampNeg a1))).1 206 33)).1 220 (Int32.toNatClampNeg a1)))))))))) else rf_g (rf_in a2 7) (rec2 a1 (a2 + 1) (rf_i m 228 (Int32.toNatClampNeg a2) 0)))
def g_X14_strikerOf_2 (w : rf_w) : Nat → Int32 → Int32 → rf_m → Option (Int32 × rf_m)
  | 0, _, _, _ => none
  | n + 1, a1, a2, m => g_X14_strikerOf_2_b w (g_X14_strikerOf_2 w n) a1 a2 m
def g_X14_strikerOf (w : rf_w) (m : rf_m) (a1 : Int32) : Option (Int32 × rf_m) := g_X14_strikerOf_2 w rf_fuel a1 0 m
theorem s_X14_strikerOf_144 {w : rf_w} {K : rf_K} {r : Int32 × rf_m} (C : rf_Ctx 14 cX14_strikerOf 3 5 (rf_sh w) K) (hE : rf_End (some .int) K (rf_sh w) 0 0 (some (.int r.1)) (rf_MM w r.2)) {rec95 : Int32 → Int32 → rf_m → Option (Int32 × rf_m)} (hr95 : ∀ (a1 : Int32) (a2 : Int32) (m : rf_m), rec95 a1 a2 m = some r → rf_V 3 (rf_sh w) K 0 0 95 ([(0, .ref 206), (1, .int a1), (2, .int a2)], [], rf_MM w m)) (a1 : Int32) (a2 : Int32) (m : rf_m) (hg : g_X14_strikerOf_144 w rec95 a1 a2 m = some r) : rf_V 3 (rf_sh w) K 0 0 144 ([(0, .ref 206), (1, .int a1), (2, .int a2)], [], rf_MM w m) := by
  unfold g_X14_strikerOf_144 at hg
  refine rf_seg C [(.iinc 2 1, 3)] (pc' := 147) (S' := ([(2, .int (a2 + 1)), (0, .ref 206), (1, .int a1)], [], rf_MM w m)) (by decide +kernel) rfl trivial ?_
  refine rf_goto C (-52) 95 (by decide +kernel) ?_
  refine rf_few [1, 2, 0] rfl ?_
  exact hr95 a1 (a2 + 1) m hg
theorem s_X14_strikerOf_95_b {w : rf_w} {K : rf_K} {r : Int32 × rf_m} (C : rf_Ctx 14 cX14_strikerOf 3 5 (rf_sh w) K) (hE : rf_End (some .int) K (rf_sh w) 0 0 (some (.int r.1)) (rf_MM w r.2)) {rec95 : Int32 → Int32 → rf_m → Option (Int32 × rf_m)} (hr95 : ∀ (a1 : Int32) (a2 : Int32) (m : rf_m), rec95 a1 a2 m = some r → rf_V 3 (rf_sh w) K 0 0 95 ([(0, .ref 206), (1, .int a1), (2, .int a2)], [], rf_MM w m)) (a1 : Int32) (a2 : Int32) (m : rf_m) (hg : g_X14_strikerOf_95_b w rec95 a1 a2 m = some r) : rf_V 3 (rf_sh w) K 0 0 95 ([(0, .ref 206), (1, .int a1), (2, .int a2)], [], rf_MM w m) := by
  unfold g_X14_strikerOf_95_b at hg
  refine rf_seg C [(.iload 2, 1), (.aload 0, 1), (.invokeinterface 14 39, 3)] (pc' := 100) (S' := ([(0, .ref 206), (1, .int a1), (2, .int a2)], [.int (m.1 206 39), .int a2], rf_MM w m)) (by decide +kernel) rfl trivial ?_
  refine rf_icmp_ge C 50 150 (by decide +kernel) (fun hc => ?_) (fun hc => ?_)
  · replace hg := (if_pos hc).symm.trans hg
    refine rf_seg C [(.iconst (-2), 2)] (pc' := 152) (S' := ([(0, .ref 206), (1, .int a1), (2, .int a2)], [.int ((-2))], rf_MM w m)) (by decide +kernel) rfl trivial ?_
    obtain rfl := Option.some.inj hg
    exact rf_iret C hE (by decide +kernel)
  · replace hg := (if_neg hc).symm.trans hg
    refine rf_seg C [(.aload 0, 1), (.invokeinterface 14 40, 3), (.iload 2, 1)] (pc' := 108) (S' := ([(0, .ref 206), (1, .int a1), (2, .int a2)], [.int a2, .ref 229], rf_MM w m)) (by decide +kernel) rfl trivial ?_
    obtain ⟨q0, hg⟩ := rf_g_some hg
    obtain ⟨k1, hk1, hg⟩ := rf_o_some hg
    refine rf_d_aaload C (n := 24) (q := k1) rfl (rf_in_of q0) hk1 (by decide +kernel) ?_
    obtain ⟨q2, hg⟩ := rf_g_some hg
    obtain ⟨q3, hg⟩ := rf_g_some hg
    obtain ⟨q4, hg⟩ := rf_g_some hg
    obtain ⟨q5, hg⟩ := rf_g_some hg
    obtain ⟨q6, hg⟩ := rf_g_some hg
    show rf_V 3 (rf_sh w) K 0 0 109 ([(0, .ref 206), (1, .int a1), (2, .int a2)], [.ref k1], rf_MM w m)
    refine rf_d_get C 12 0 (rf_isO_of q2) (by decide +kernel) ?_
    show rf_V 3 (rf_sh w) K 0 0 112 ([(0, .ref 206), (1, .int a1), (2, .int a2)], [.int (m.1 k1 0)], rf_MM w m)
    refine rf_if_ne C 32 144 (by decide +kernel) (fun hc => ?_) (fun hc => ?_)
    · replace hg := (if_neg hc).symm.trans hg
      refine rf_few [0, 1, 2] rfl ?_
      exact s_X14_strikerOf_144 C hE hr95 a1 a2 m hg
    · replace hg := (if_pos hc).symm.trans hg
      obtain ⟨q7, hg⟩ := rf_g_some hg
      refine rf_seg C [(.aload 0, 1), (.iload 2, 1), (.aload 0, 1), (.invokeinterface 14 28, 3), (.iload 1, 1), (.iaload, 1)] (pc' := 123) (S' := ([(0, .ref 206), (1, .int a1), (2, .int a2)], [.int (m.1 224 (Int32.toNatClampNeg a1)), .int a2, .ref 206], rf_MM w m)) (by decide +kernel) rfl (rf_in_of q7) ?_
      obtain ⟨y8, m8, hc8, hg⟩ := rf_b_some hg
      refine rf_callv C rf_fit0 j_X14_isInForce (ci := 14) (As := [.int a2, .int (m.1 224 (Int32.toNatClampNeg a1))]) (rest := []) mw_X14_isInForce (c_X14_isInForce hc8) (by decide) rfl (by decide) lk_14_458 rfl rfl (Nat.le_of_ble_eq_true rfl) (by decide +kernel) ?_
      show rf_V 3 (rf_sh w) K 0 0 126 ([(0, .ref 206), (1, .int a1), (2, .int a2)], [.int y8], rf_MM w m8)
      refine rf_if_eq C 18 144 (by decide +kernel) (fun hc => ?_) (fun hc => ?_)
      · replace hg := (if_pos hc).symm.trans hg
        refine rf_few [0, 1, 2] rfl ?_
        exact s_X14_strikerOf_144 C hE hr95 a1 a2 m8 hg
      · replace hg := (if_neg hc).symm.trans hg
        refine rf_seg C [(.aload 0, 1), (.aload 0, 1), (.invokeinterface 14 40, 3), (.iload 2, 1)] (pc' := 135) (S' := ([(0, .ref 206), (1, .int a1), (2, .int a2)], [.int a2, .ref 229, .ref 206], rf_MM w m8)) (by decide +kernel) rfl trivial ?_
        obtain ⟨q9, hg⟩ := rf_g_some hg
        obtain ⟨k10, hk10, hg⟩ := rf_o_some hg
        refine rf_d_aaload C (n := 24) (q := k10) rfl (rf_in_of q9) hk10 (by decide +kernel) ?_
        obtain ⟨q11, hg⟩ := rf_g_some hg
        obtain ⟨q12, hg⟩ := rf_g_some hg
        obtain ⟨q13, hg⟩ := rf_g_some hg
        obtain ⟨q14, hg⟩ := rf_g_some hg
        obtain ⟨q15, hg⟩ := rf_g_some hg
        show rf_V 3 (rf_sh w) K 0 0 136 ([(0, .ref 206), (1, .int a1), (2, .int a2)], [.ref k10, .ref 206], rf_MM w m8)
        obtain ⟨y16, m16, hc16, hg⟩ := rf_b_some hg
        refine rf_callv C rf_fit0 j_X14_testOf (ci := 14) (As := [.ref k10]) (rest := []) mw_X14_testOf (c_X14_testOf hc16) (by decide) rfl (by decide) lk_14_461 rfl rfl (Nat.le_of_ble_eq_true rfl) (by decide +kernel) ?_
        show rf_V 3 (rf_sh w) K 0 0 139 ([(0, .ref 206), (1, .int a1), (2, .int a2)], [.int y16], rf_MM w m16)
        refine rf_if_eq C 5 144 (by decide +kernel) (fun hc => ?_) (fun hc => ?_)
        · replace hg := (if_pos hc).symm.trans hg
          refine rf_few [0, 1, 2] rfl ?_
          exact s_X14_strikerOf_144 C hE hr95 a1 a2 m16 hg
        · replace hg := (if_neg hc).symm.trans hg
          refine rf_seg C [(.iload 2, 1)] (pc' := 143) (S' := ([(0, .ref 206), (1, .int a1), (2, .int a2)], [.int a2], rf_MM w m16)) (by decide +kernel) rfl trivial ?_
          obtain rfl := Option.some.inj hg
          exact rf_iret C hE (by decide +kernel)
theorem s_X14_strikerOf_95 {w : rf_w} {K : rf_K} {r : Int32 × rf_m} (C : rf_Ctx 14 cX14_strikerOf 3 5 (rf_sh w) K) (hE : rf_End (some .int) K (rf_sh w) 0 0 (some (.int r.1)) (rf_MM w r.2)) (n : Nat) : ∀ (a1 : Int32) (a2 : Int32) (m : rf_m), g_X14_strikerOf_95 w n a1 a2 m = some r → rf_V 3 (rf_sh w) K 0 0 95 ([(0, .ref 206), (1, .int a1), (2, .int a2)], [], rf_MM w m) := by
  induction n with
  | zero => intro a1 a2 m hg; cases hg
  | succ n ih => intro a1 a2 m hg; exact s_X14_strikerOf_95_b C hE ih a1 a2 m hg
theorem s_X14_strikerOf_2_b {w : rf_w} {K : rf_K} {r : Int32 × rf_m} (C : rf_Ctx 14 cX14_strikerOf 3 5 (rf_sh w) K) (hE : rf_End (some .int) K (rf_sh w) 0 0 (some (.int r.1)) (rf_MM w r.2)) {rec2 : Int32 → Int32 → rf_m → Option (Int32 × rf_m)} (hr2 : ∀ (a1 : Int32) (a2 : Int32) (m : rf_m), rec2 a1 a2 m = some r → rf_V 3 (rf_sh w) K 0 0 2 ([(0, .ref 206), (1, .int a1), (2, .int a2)], [], rf_MM w m)) (a1 : Int32) (a2 : Int32) (m : rf_m) (hg : g_X14_strikerOf_2_b w rec2 a1 a2 m = some r) : rf_V 3 (rf_sh w) K 0 0 2 ([(0, .ref 206), (1, .int a1), (2, .int a2)], [], rf_MM w m) := by
  unfold g_X14_strikerOf_2_b at hg
  refine rf_seg C [(.iload 2, 1), (.iconst 7, 2)] (pc' := 5) (S' := ([(0, .ref 206), (1, .int a1), (2, .int a2)], [.int 7, .int a2], rf_MM w m)) (by decide +kernel) rfl trivial ?_
  refine rf_icmp_ge C 16 21 (by decide +kernel) (fun hc => ?_) (fun hc => ?_)
  · replace hg := (if_pos hc).symm.trans hg
    obtain ⟨q0, hg⟩ := rf_g_some hg
    refine rf_seg C [(.aload 0, 1), (.invokeinterface 14 32, 3), (.iconst 0, 1), (.aload 0, 1), (.invokeinterface 14 25, 3), (.iload 1, 1), (.iaload, 1), (.aload 0, 1), (.invokeinterface 14 35, 3), (.isub, 1)] (pc' := 37) (S' := ([(0, .ref 206), (1, .int a1), (2, .int a2)], [.int ((m.1 221 (Int32.toNatClampNeg a1)) - (m.1 206 35)), .int 0, .ref 228], rf_MM w m)) (by decide +kernel) rfl (rf_in_of q0) ?_
    obtain ⟨y1, m1, hc1, hg⟩ := rf_b_some hg
    refine rf_calls C rf_fit0 j_abs (As := [.int ((m.1 221 (Int32.toNatClampNeg a1)) - (m.1 206 35))]) (rest := [.int 0, .ref 228]) mw_abs (c_abs hc1) (by decide) lk_14_381 rfl rfl (Nat.le_of_ble_eq_true rfl) (by decide +kernel) ?_
    show rf_V 3 (rf_sh w) K 0 0 40 ([(0, .ref 206), (1, .int a1), (2, .int a2)], [.int y1, .int 0, .ref 228], rf_MM w m1)
    obtain ⟨q2, hg⟩ := rf_g_some hg
    obtain ⟨q3, hg⟩ := rf_g_some hg
    obtain ⟨q4, hg⟩ := rf_g_some hg
    obtain ⟨q5, hg⟩ := rf_g_some hg
    refine rf_seg C [(.iastore, 1), (.aload 0, 1), (.invokeinterface 14 32, 3), (.iconst 1, 1), (.aload 0, 1), (.invokeinterface 14 26, 3), (.iload 1, 1), (.iaload, 1), (.iastore, 1), (.aload 0, 1), (.invokeinterface 14 32, 3), (.iconst 2, 1), (.aload 0, 1), (.invokeinterface 14 27, 3), (.iload 1, 1), (.iaload, 1), (.iastore, 1), (.aload 0, 1), (.invokeinterface 14 32, 3), (.iconst 3, 1), (.aload 0, 1), (.invokeinterface 14 33, 3), (.iastore, 1), (.aload 0, 1), (.invokeinterface 14 32, 3), (.iconst 6, 2), (.aload 0, 1), (.invokeinterface 14 21, 3), (.aload 0, 1), (.invokeinterface 14 24, 3), (.iload 1, 1), (.iaload, 1), (.iaload, 1), (.iastore, 1), (.iconst 0, 1), (.istore 2, 1)] (pc' := 95) (S' := ([(2, .int 0), (0, .ref 206), (1, .int a1)], [], rf_MM w (rf_i (rf_i (rf_i (rf_i (rf_i m1 228 (Int32.toNatClampNeg 0) y1) 228 (Int32.toNatClampNeg 1) ((rf_i m1 228 (Int32.toNatClampNeg 0) y1).1 222 (Int32.toNatClampNeg a1))) 228 (Int32.toNatClampNeg 2) ((rf_i (rf_i m1 228 (Int32.toNatClampNeg 0) y1) 228 (Int32.toNatClampNeg 1) ((rf_i m1 228 (Int32.toNatClampNeg 0) y1).1 222 (Int32.toNatClampNeg a1))).1 223 (Int32.toNatClampNeg a1))) 228 (Int32.toNatClampNeg 3) ((rf_i (rf_i (rf_i m1 228 (Int32.toNatClampNeg 0) y1) 228 (Int32.toNatClampNeg 1) ((rf_i m1 228 (Int32.toNatClampNeg 0) y1).1 222 (Int32.toNatClampNeg a1))) 228 (Int32.toNatClampNeg 2) ((rf_i (rf_i m1 228 (Int32.toNatClampNeg 0) y1) 228 (Int32.toNatClampNeg 1) ((rf_i m1 228 (Int32.toNatClampNeg 0) y1).1 222 (Int32.toNatClampNeg a1))).1 223 (Int32.toNatClampNeg a1))).1 206 33)) 228 (Int32.toNatClampNeg 6) ((rf_i (rf_i (rf_i (rf_i m1 228 (Int32.toNatClampNeg 0) y1) 228 (Int32.toNatClampNeg 1) ((rf_i m1 228 (Int32.toNatClampNeg 0) y1).1 222 (Int32.toNatClampNeg a1))) 228 (Int32.toNatClampNeg 2) ((rf_i (rf_i m1 228 (Int32.toNatClampNeg 0) y1) 228 (Int32.toNatClampNeg 1) ((rf_i m1 228 (Int32.toNatClampNeg 0) y1).1 222 (Int32.toNatClampNeg a1))).1 223 (Int32.toNatClampNeg a1))) 228 (Int32.toNatClampNeg 3) ((rf_i (rf_i (rf_i m1 228 (Int32.toNatClampNeg 0) y1) 228 (Int32.toNatClampNeg 1) ((rf_i m1 228 (Int32.toNatClampNeg 0) y1).1 222 (Int32.toNatClampNeg a1))) 228 (Int32.toNatClampNeg 2) ((rf_i (rf_i m1 228 (Int32.toNatClampNeg 0) y1) 228 (Int32.toNatClampNeg 1) ((rf_i m1 228 (Int32.toNatClampNeg 0) y1).1 222 (Int32.toNatClampNeg a1))).1 223 (Int32.toNatClampNeg a1))).1 206 33)).1 217 (Int32.toNatClampNeg ((rf_i (rf_i (rf_i (rf_i m1 228 (Int32.toNatClampNeg 0) y1) 228 (Int32.toNatClampNeg 1) ((rf_i m1 228 (Int32.toNatClampNeg 0) y1).1 222 (Int32.toNatClampNeg a1))) 228 (Int32.toNatClampNeg 2) ((rf_i (rf_i m1 228 (Int32.toNatClampNeg 0) y1) 228 (Int32.toNatClampNeg 1) ((rf_i m1 228 (Int32.toNatClampNeg 0) y1).1 222 (Int32.toNatClampNeg a1))).1 223 (Int32.toNatClampNeg a1))) 228 (Int32.toNatClampNeg 3) ((rf_i (rf_i (rf_i m1 228 (Int32.toNatClampNeg 0) y1) 228 (Int32.toNatClampNeg 1) ((rf_i m1 228 (Int32.toNatClampNeg 0) y1).1 222 (Int32.toNatClampNeg a1))) 228 (Int32.toNatClampNeg 2) ((rf_i (rf_i m1 228 (Int32.toNatClampNeg 0) y1) 228 (Int32.toNatClampNeg 1) ((rf_i m1 228 (Int32.toNatClampNeg 0) y1).1 222 (Int32.toNatClampNeg a1))).1 223 (Int32.toNatClampNeg a1))).1 206 33)).1 220 (Int32.toNatClampNeg a1))))))) (by decide +kernel) rfl (by exact ⟨(rf_in_of (by decide)), (rf_in_of q2), (rf_in_of (by decide)), (rf_in_of q3), (rf_in_of (by decide)), (rf_in_of (by decide)), (rf_in_of q4), (rf_in_of q5), (rf_in_of (by decide))⟩) ?_
    refine rf_few [1, 2, 0] rfl ?_
    exact s_X14_strikerOf_95 C hE rf_fuel a1 0 (rf_i (rf_i (rf_i (rf_i (rf_i m1 228 (Int32.toNatClampNeg 0) y1) 228 (Int32.toNatClampNeg 1) ((rf_i m1 228 (Int32.toNatClampNeg 0) y1).1 222 (Int32.toNatClampNeg a1))) 228 (Int32.toNatClampNeg 2) ((rf_i (rf_i m1 228 (Int32.toNatClampNeg 0) y1) 228 (Int32.toNatClampNeg 1) ((rf_i m1 228 (Int32.toNatClampNeg 0) y1).1 222 (Int32.toNatClampNeg a1))).1 223 (Int32.toNatClampNeg a1))) 228 (Int32.toNatClampNeg 3) ((rf_i (rf_i (rf_i m1 228 (Int32.toNatClampNeg 0) y1) 228 (Int32.toNatClampNeg 1) ((rf_i m1 228 (Int32.toNatClampNeg 0) y1).1 222 (Int32.toNatClampNeg a1))) 228 (Int32.toNatClampNeg 2) ((rf_i (rf_i m1 228 (Int32.toNatClampNeg 0) y1) 228 (Int32.toNatClampNeg 1) ((rf_i m1 228 (Int32.toNatClampNeg 0) y1).1 222 (Int32.toNatClampNeg a1))).1 223 (Int32.toNatClampNeg a1))).1 206 33)) 228 (Int32.toNatClampNeg 6) ((rf_i (rf_i (rf_i (rf_i m1 228 (Int32.toNatClampNeg 0) y1) 228 (Int32.toNatClampNeg 1) ((rf_i m1 228 (Int32.toNatClampNeg 0) y1).1 222 (Int32.toNatClampNeg a1))) 228 (Int32.toNatClampNeg 2) ((rf_i (rf_i m1 228 (Int32.toNatClampNeg 0) y1) 228 (Int32.toNatClampNeg 1) ((rf_i m1 228 (Int32.toNatClampNeg 0) y1).1 222 (Int32.toNatClampNeg a1))).1 223 (Int32.toNatClampNeg a1))) 228 (Int32.toNatClampNeg 3) ((rf_i (rf_i (rf_i m1 228 (Int32.toNatClampNeg 0) y1) 228 (Int32.toNatClampNeg 1) ((rf_i m1 228 (Int32.toNatClampNeg 0) y1).1 222 (Int32.toNatClampNeg a1))) 228 (Int32.toNatClampNeg 2) ((rf_i (rf_i m1 228 (Int32.toNatClampNeg 0) y1) 228 (Int32.toNatClampNeg 1) ((rf_i m1 228 (Int32.toNatClampNeg 0) y1).1 222 (Int32.toNatClampNeg a1))).1 223 (Int32.toNatClampNeg a1))).1 206 33)).1 217 (Int32.toNatClampNeg ((rf_i (rf_i (rf_i (rf_i m1 228 (Int32.toNatClampNeg 0) y1) 228 (Int32.toNatClampNeg 1) ((rf_i m1 228 (Int32.toNatClampNeg 0) y1).1 222 (Int32.toNatClampNeg a1))) 228 (Int32.toNatClampNeg 2) ((rf_i (rf_i m1 228 (Int32.toNatClampNeg 0) y1) 228 (Int32.toNatClampNeg 1) ((rf_i m1 228 (Int32.toNatClampNeg 0) y1).1 222 (Int32.toNatClampNeg a1))).1 223 (Int32.toNatClampNeg a1))) 228 (Int32.toNatClampNeg 3) ((rf_i (rf_i (rf_i m1 228 (Int32.toNatClampNeg 0) y1) 228 (Int32.toNatClampNeg 1) ((rf_i m1 228 (Int32.toNatClampNeg 0) y1).1 222 (Int32.toNatClampNeg a1))) 228 (Int32.toNatClampNeg 2) ((rf_i (rf_i m1 228 (Int32.toNatClampNeg 0) y1) 228 (Int32.toNatClampNeg 1) ((rf_i m1 228 (Int32.toNatClampNeg 0) y1).1 222 (Int32.toNatClampNeg a1))).1 223 (Int32.toNatClampNeg a1))).1 206 33)).1 220 (Int32.toNatClampNeg a1))))) hg
  · replace hg := (if_neg hc).symm.trans hg
    obtain ⟨q6, hg⟩ := rf_g_some hg
    refine rf_seg C [(.aload 0, 1), (.invokeinterface 14 32, 3), (.iload 2, 1), (.iconst 0, 1), (.iastore, 1), (.iinc 2 1, 3)] (pc' := 18) (S' := ([(2, .int (a2 + 1)), (0, .ref 206), (1, .int a1)], [], rf_MM w (rf_i m 228 (Int32.toNatClampNeg a2) 0))) (by decide +kernel) rfl (rf_in_of q6) ?_
    refine rf_goto C (-16) 2 (by decide +kernel) ?_
    refine rf_few [1, 2, 0] rfl ?_
    exact hr2 a1 (a2 + 1) (rf_i m 228 (Int32.toNatClampNeg a2) 0) hg
theorem s_X14_strikerOf_2 {w : rf_w} {K : rf_K} {r : Int32 × rf_m} (C : rf_Ctx 14 cX14_strikerOf 3 5 (rf_sh w) K) (hE : rf_End (some .int) K (rf_sh w) 0 0 (some (.int r.1)) (rf_MM w r.2)) (n : Nat) : ∀ (a1 : Int32) (a2 : Int32) (m : rf_m), g_X14_strikerOf_2 w n a1 a2 m = some r → rf_V 3 (rf_sh w) K 0 0 2 ([(0, .ref 206), (1, .int a1), (2, .int a2)], [], rf_MM w m) := by
  induction n with
  | zero => intro a1 a2 m hg; cases hg
  | succ n ih => intro a1 a2 m hg; exact s_X14_strikerOf_2_b C hE ih a1 a2 m hg
theorem c_X14_strikerOf {w : rf_w} {m : rf_m} {a1 : Int32} {r : Int32 × rf_m} (hg : g_X14_strikerOf w m a1 = some r) : rf_Con j_X14_strikerOf 5 (rf_sh w) [.ref 206, .int a1] (rf_MM w m) (some (.int r.1)) (rf_MM w r.2) := by
  refine rf_con j_X14_strikerOf 5 ⟨by decide +kernel, rfl, Nat.le_of_ble_eq_true rfl⟩ (fun K C hE => ?_)
  unfold g_X14_strikerOf at hg
  show rf_V 3 (rf_sh w) K 0 0 0 ([(0, .ref 206), (1, .int a1)], [], rf_MM w m)
  refine rf_seg C [(.iconst 0, 1), (.istore 2, 1)] (pc' := 2) (S' := ([(2, .int 0), (0, .ref 206), (1, .int a1)], [], rf_MM w m)) (by decide +kernel) rfl trivial ?_
  refine rf_few [1, 2, 0] rfl ?_
  exact s_X14_strikerOf_2 C hE rf_fuel a1 0 m hg
-- X14_goes
abbrev j_X14_goes : rf_J := (14, yX14_goes, cX14_goes, 6, none)
theorem mw_X14_goes : rf_mv j_X14_goes (rf_R 14) 2 := ⟨⟨rf_mem 28 (by decide +kernel), rf_mem 28 (by decide +kernel), rf_mem 0 (by decide +kernel), rf_mem 28 (by decide +kernel)⟩, by decide +kernel, by decide⟩
def g_X14_goes_337 (w : rf_w) (rec168 : Int32 → Int32 → Int64 → Int32 → rf_m → Option (rf_m)) (a1 : Int32) (a2 : Int32) (a3 : Int64) (a5 : Int32) (m : rf_m) : Option (rf_m) := rec168 a1 a2 a3 (a5 + 1) m
def g_X14_goes_302 (w : rf_w) (rec168 : Int32 → Int32 → Int64 → Int32 → rf_m → Option (rf_m)) (a1 : Int32) (a2 : Int32) (a3 : Int64) (a5 : Int32) (s1 : Int32) (m : rf_m) : Option (rf_m) := rf_g (rf_in ((rf_i m 206 38 s1).1 206 34) 20) (rf_g (rf_in a5 1200) (rf_vl (a3 + (Int32.toInt64 ((rf_i (rf_i m 206 38 s1) 227 (Int32.toNatClampNeg ((rf_i m 206 38 s1).1 206 34)) a5).1 221 (Int32.toNatClampNeg a5)))) fun x2 => g_X14_goes_337 w rec168 a1 a2 x2 a5 (rf_i (rf_i (rf_i m 206 38 s1) 227 (Int32.toNatClampNeg ((rf_i m 206 38 s1).1 206 34)) a5) 206 34 (((rf_i (rf_i m 206 38 s1) 227 (Int32.toNatClampNeg ((rf_i m 206 38 s1).1 206 34)) a5).1 206 34) + 1))))
def g_X14_goes_267 (w : rf_w) (rec168 : Int32 → Int32 → Int64 → Int32 → rf_m → Option (rf_m)) (a1 : Int32) (a2 : Int32) (a3 : Int64) (a5 : Int32) (s1 : Int32) (m : rf_m) : Option (rf_m) := (if ((rf_i m 206 37 s1).1 206 34) = 0 then rf_g (rf_in a5 1200) (g_X14_goes_302 w rec168 a1 a2 a3 a5 ((rf_i m 206 37 s1).1 221 (Int32.toNatClampNeg a5)) (rf_i m 206 37 s1)) else rf_g (rf_in a5 1200) (rf_b (g_max w (rf_i m 206 37 s1) ((rf_i m 206 37 s1).1 206 38) ((rf_i m 206 37 s1).1 221 (Int32.toNatClampNeg a5))) fun y1 m1 => g_X14_goes_302 w rec168 a1 a2 a3 a5 y1 m1))
def g_X14_goes_168_b (w : rf_w) (rec168 : Int32 → Int32 → Int64 → Int32 → rf_m → Option (rf_m)) (a1 : Int32) (a2 : Int32) (a3 : Int64) (a5 : Int32) (m : rf_m) : Option (rf_m) := (if (m.1 206 17) ≤ a5 then (if (m.1 206 34) = 0 then (if ((rf_i m 206 36 ((-2))).1 206 34) ≤ 0 then some (rf_i (rf_i (rf_i m 206 36 ((-2))) 206 37 ((-2))) 206 38 ((-2))) else some (rf_i m 206 36 ((-2)))) else rf_g (rf_nzl (Int32.toInt64 (m.1 206 34))) ((if ((rf_i m 206 36 (Int64.toInt32 (a3 / (Int32.toInt64 (m.1 206 34))))).1 206 34) ≤ 0 then some (rf_i (rf_i (rf_i m 206 36 (Int64.toInt32 (a3 / (Int32.toInt64 (m.1 206 34))))) 206 37 ((-2))) 206 38 ((-2))) else some (rf_i m 206 36 (Int64.toInt32 (a3 / (Int32.toInt64 (m.1 206 34)))))))) else rf_g (rf_in a5 1200) ((if (m.1 220 (Int32.toNatClampNeg a5)) = a1 then rf_g (rf_in a5 1200) ((if (m.1 221 (Int32.toNatClampNeg a5)) = ((-2)) then g_X14_goes_337 w rec168 a1 a2 a3 a5 m else rf_g (rf_in a5 1200) ((if a2 < (m.1 224 (Int32.toNatClampNeg a5)) then g_X14_goes_337 w rec168 a1 a2 a3 a5 m else rf_b (g_X14_isStruckBy w m a5 a2) fun y4 m4 => (if y4 = 0 then rf_b (g_X14_strikerOf w m4 a5) fun y5 m5 => (if y5 = ((-2)) then (if (m5.1 206 34) = 0 then rf_g (rf_in a5 1200) (g_X14_goes_267 w rec168 a1 a2 a3 a5 (m5.1 221 (Int32.toNatClampNeg a5)) m5) else rf_g (rf_in a5 1200) (rf_b (g_min w m5 (m5.1 206 37) (m5.1 221 (Int32.toNatClampNeg a5))) fun y7 m7 => g_X14_goes_267 w rec168 a1 a2 a3 a5 y7 m7)) else g_X14_goes_337 w rec168 a1 a2 a3 a5 m5) else g_X14_goes_337 w rec168 a1 a2 a3 a5 m4))))) else g_X14_goes_337 w rec168 a1 a2 a3 a5 m)))
def g_X14_goes_168 (w : rf_w) : Nat → Int32 → Int32 → Int64 → Int32 → rf_m → Option (rf_m)
  | 0, _, _, _, _, _ => none
  | n + 1, a1, a2, a3, a5, m => g_X14_goes_168_b w (g_X14_goes_168 w n) a1 a2 a3 a5 m
def g_X14_goes_155 (w : rf_w) (a1 : Int32) (a2 : Int32) (s1 : Int32) (m : rf_m) : Option (rf_m) := g_X14_goes_168 w rf_fuel a1 a2 0 0 (rf_i (rf_i m 206 35 s1) 206 34 0)
def g_X14_goes_123 (w : rf_w) (rec7 : Int32 → Int32 → Int32 → rf_m → Option (rf_m)) (a1 : Int32) (a2 : Int32) (a3 : Int32) (m : rf_m) : Option (rf_m) := rec7 a1 a2 (a3 + 1) m
def g_X14_goes_100 (w : rf_w) (rec7 : Int32 → Int32 → Int32 → rf_m → Option (rf_m)) (a1 : Int32) (a2 : Int32) (a3 : Int32) (a4 : Int32) (m : rf_m) : Option (rf_m) := rf_g (rf_in a3 1200) (rf_g (rf_in a4 20) (g_X14_goes_123 w rec7 a1 a2 a3 (rf_i (rf_i m 226 (Int32.toNatClampNeg a4) (m.1 221 (Int32.toNatClampNeg a3))) 206 33 (((rf_i m 226 (Int32.toNatClampNeg a4) (m.1 221 (Int32.toNatClampNeg a3))).1 206 33) + 1))))
def g_X14_goes_55_b (w : rf_w) (rec7 : Int32 → Int32 → Int32 → rf_m → Option (rf_m)) (rec55 : Int32 → Int32 → Int32 → Int32 → rf_m → Option (rf_m)) (a1 : Int32) (a2 : Int32) (a3 : Int32) (a4 : Int32) (m : rf_m) : Option (rf_m) := (if a4 ≤ 0 then g_X14_goes_100 w rec7 a1 a2 a3 a4 m else rf_g (rf_in (a4 - 1) 20) (rf_g (rf_in a3 1200) ((if (m.1 226 (Int32.toNatClampNeg (a4 - 1))) ≤ (m.1 221 (Int32.toNatClampNeg a3)) then g_X14_goes_100 w rec7 a1 a2 a3 a4 m else rf_g (rf_in (a4 - 1) 20) (rf_g (rf_in a4 20) (rec55 a1 a2 a3 (a4 + (-1)) (rf_i m 226 (Int32.toNatClampNeg a4) (m.1 226 (Int32.toNatClampNeg (a4 - 1))))))))))
def g_X14_goes_55 (w : rf_w) (rec7 : Int32 → Int32 → Int32 → rf_m → Option (rf_m)) : Nat → Int32 → Int32 → Int32 → Int32 → rf_m → Option (rf_m)
  | 0, _, _, _, _, _ => none
  | n + 1, a1, a2, a3, a4, m => g_X14_goes_55_b w rec7 (g_X14_goes_55 w rec7 n) a1 a2 a3 a4 m
def g_X14_goes_7_b (w : rf_w) (rec7 : Int32 → Int32 → Int32 → rf_m → Option (rf_m)) (a1 : Int32) (a2 : Int32) (a3 : Int32) (m : rf_m) : Option (rf_m) := (if (m.1 206 17) ≤ a3 then (if (m.1 206 33) = 0 then g_X14_goes_155 w a1 a2 ((-2)) m else rf_g (rf_in (((m.1 206 33) - 1) / 2) 20) (g_X14_goes_155 w a1 a2 (m.1 226 (Int32.toNatClampNeg (((m.1 206 33) - 1) / 2))) m)) else rf_g (rf_in a3 1200) ((if (m.1 220 (Int32.toNatClampNeg a3)) = a1 then rf_g (rf_in a3 1200) ((if (m.1 221 (Int32.toNatClampNeg a3)) = ((-2)) then g_X14_goes_123 w rec7 a1 a2 a3 m else rf_g (rf_in a3 1200) ((if (m.1 224 (Int32.toNatClampNeg a3)) ≤ a2 then g_X14_goes_55 w rec7 rf_fuel a1 a2 a3 (m.1 206 33) m else g_X14_goes_123 w rec7 a1 a2 a3 m)))) else g_X14_goes_123 w rec7 a1 a2 a3 m)))
def g_X14_goes_7 (w : rf_w) : Nat → Int32 → Int32 → Int32 → rf_m → Option (rf_m)
  | 0, _, _, _, _ => none
  | n + 1, a1, a2, a3, m => g_X14_goes_7_b w (g_X14_goes_7 w n) a1 a2 a3 m
def g_X14_goes (w : rf_w) (m : rf_m) (a1 : Int32) (a2 : Int32) : Option (rf_m) := g_X14_goes_7 w rf_fuel a1 a2 0 (rf_i m 206 33 0)
theorem s_X14_goes_337 {w : rf_w} {K : rf_K} {r : rf_m} (C : rf_Ctx 14 cX14_goes 6 6 (rf_sh w) K) (hE : rf_End none K (rf_sh w) 0 0 none (rf_MM w r)) {rec168 : Int32 → Int32 → Int64 → Int32 → rf_m → Option (rf_m)} (hr168 : ∀ (a1 : Int32) (a2 : Int32) (a3 : Int64) (a5 : Int32) (m : rf_m), rec168 a1 a2 a3 a5 m = some r → rf_V 6 (rf_sh w) K 0 0 168 ([(0, .ref 206), (1, .int a1), (2, .int a2), (3, .long a3), (5, .int a5)], [], rf_MM w m)) (a1 : Int32) (a2 : Int32) (a3 : Int64) (a5 : Int32) (m : rf_m) (hg : g_X14_goes_337 w rec168 a1 a2 a3 a5 m = some r) : rf_V 6 (rf_sh w) K 0 0 337 ([(0, .ref 206), (1, .int a1), (2, .int a2), (3, .long a3), (5, .int a5)], [], rf_MM w m) := by
  unfold g_X14_goes_337 at hg
  refine rf_seg C [(.iinc 5 1, 3)] (pc' := 340) (S' := ([(5, .int (a5 + 1)), (0, .ref 206), (1, .int a1), (2, .int a2), (3, .long a3)], [], rf_MM w m)) (by decide +kernel) rfl trivial ?_
  refine rf_goto C (-172) 168 (by decide +kernel) ?_
  refine rf_few [1, 2, 3, 4, 0] rfl ?_
  exact hr168 a1 a2 a3 (a5 + 1) m hg
theorem s_X14_goes_302 {w : rf_w} {K : rf_K} {r : rf_m} (C : rf_Ctx 14 cX14_goes 6 6 (rf_sh w) K) (hE : rf_End none K (rf_sh w) 0 0 none (rf_MM w r)) {rec168 : Int32 → Int32 → Int64 → Int32 → rf_m → Option (rf_m)} (hr168 : ∀ (a1 : Int32) (a2 : Int32) (a3 : Int64) (a5 : Int32) (m : rf_m), rec168 a1 a2 a3 a5 m = some r → rf_V 6 (rf_sh w) K 0 0 168 ([(0, .ref 206), (1, .int a1), (2, .int a2), (3, .long a3), (5, .int a5)], [], rf_MM w m)) (a1 : Int32) (a2 : Int32) (a3 : Int64) (a5 : Int32) (s1 : Int32) (m : rf_m) (hg : g_X14_goes_302 w rec168 a1 a2 a3 a5 s1 m = some r) : rf_V 6 (rf_sh w) K 0 0 302 ([(0, .ref 206), (1, .int a1), (2, .int a2), (3, .long a3), (5, .int a5)], [.int s1, .ref 206], rf_MM w m) := by
  unfold g_X14_goes_302 at hg
  obtain ⟨q0, hg⟩ := rf_g_some hg
  obtain ⟨q1, hg⟩ := rf_g_some hg
  refine rf_seg C [(.multianewarray 14 38, 3), (.aload 0, 1), (.invokeinterface 14 31, 3), (.aload 0, 1), (.invokeinterface 14 34, 3), (.iload 5, 2), (.iastore, 1), (.lload 3, 1), (.aload 0, 1), (.invokeinterface 14 25, 3), (.iload 5, 2), (.iaload, 1), (.i2l, 1), (.ladd, 1)] (pc' := 326) (S' := ([(0, .ref 206), (1, .int a1), (2, .int a2), (3, .long a3), (5, .int a5)], [.long (a3 + (Int32.toInt64 ((rf_i (rf_i m 206 38 s1) 227 (Int32.toNatClampNeg ((rf_i m 206 38 s1).1 206 34)) a5).1 221 (Int32.toNatClampNeg a5))))], rf_MM w (rf_i (rf_i m 206 38 s1) 227 (Int32.toNatClampNeg ((rf_i m 206 38 s1).1 206 34)) a5))) (by decide +kernel) rfl (by exact ⟨(rf_in_of q0), (rf_in_of q1)⟩) ?_
  obtain ⟨x2, hx2, hg⟩ := rf_vl_some hg
  refine rf_vl_top hx2 ?_
  refine rf_seg C [(.lstore 3, 1), (.aload 0, 1), (.dup, 1), (.invokeinterface 14 34, 3), (.iconst 1, 1), (.iadd, 1), (.multianewarray 14 34, 3)] (pc' := 337) (S' := ([(3, .long x2), (0, .ref 206), (1, .int a1), (2, .int a2), (5, .int a5)], [], rf_MM w (rf_i (rf_i (rf_i m 206 38 s1) 227 (Int32.toNatClampNeg ((rf_i m 206 38 s1).1 206 34)) a5) 206 34 (((rf_i (rf_i m 206 38 s1) 227 (Int32.toNatClampNeg ((rf_i m 206 38 s1).1 206 34)) a5).1 206 34) + 1)))) (by decide +kernel) rfl trivial ?_
  refine rf_few [1, 2, 3, 0, 4] rfl ?_
  exact s_X14_goes_337 C hE hr168 a1 a2 x2 a5 (rf_i (rf_i (rf_i m 206 38 s1) 227 (Int32.toNatClampNeg ((rf_i m 206 38 s1).1 206 34)) a5) 206 34 (((rf_i (rf_i m 206 38 s1) 227 (Int32.toNatClampNeg ((rf_i m 206 38 s1).1 206 34)) a5).1 206 34) + 1)) hg
theorem s_X14_goes_267 {w : rf_w} {K : rf_K} {r : rf_m} (C : rf_Ctx 14 cX14_goes 6 6 (rf_sh w) K) (hE : rf_End none K (rf_sh w) 0 0 none (rf_MM w r)) {rec168 : Int32 → Int32 → Int64 → Int32 → rf_m → Option (rf_m)} (hr168 : ∀ (a1 : Int32) (a2 : Int32) (a3 : Int64) (a5 : Int32) (m : rf_m), rec168 a1 a2 a3 a5 m = some r → rf_V 6 (rf_sh w) K 0 0 168 ([(0, .ref 206), (1, .int a1), (2, .int a2), (3, .long a3), (5, .int a5)], [], rf_MM w m)) (a1 : Int32) (a2 : Int32) (a3 : Int64) (a5 : Int32) (s1 : Int32) (m : rf_m) (hg : g_X14_goes_267 w rec168 a1 a2 a3 a5 s1 m = some r) : rf_V 6 (rf_sh w) K 0 0 267 ([(0, .ref 206), (1, .int a1), (2, .int a2), (3, .long a3), (5, .int a5)], [.int s1, .ref 206], rf_MM w m) := by
  unfold g_X14_goes_267 at hg
  refine rf_seg C [(.multianewarray 14 37, 3), (.aload 0, 1), (.aload 0, 1), (.invokeinterface 14 34, 3)] (pc' := 275) (S' := ([(0, .ref 206), (1, .int a1), (2, .int a2), (3, .long a3), (5, .int a5)], [.int ((rf_i m 206 37 s1).1 206 34), .ref 206], rf_MM w (rf_i m 206 37 s1))) (by decide +kernel) rfl trivial ?_
  refine rf_if_ne C 13 288 (by decide +kernel) (fun hc => ?_) (fun hc => ?_)
  · replace hg := (if_neg hc).symm.trans hg
    obtain ⟨q0, hg⟩ := rf_g_some hg
    refine rf_seg C [(.aload 0, 1), (.invokeinterface 14 38, 3), (.aload 0, 1), (.invokeinterface 14 25, 3), (.iload 5, 2), (.iaload, 1)] (pc' := 299) (S' := ([(0, .ref 206), (1, .int a1), (2, .int a2), (3, .long a3), (5, .int a5)], [.int ((rf_i m 206 37 s1).1 221 (Int32.toNatClampNeg a5)), .int ((rf_i m 206 37 s1).1 206 38), .ref 206], rf_MM w (rf_i m 206 37 s1))) (by decide +kernel) rfl (rf_in_of q0) ?_
    obtain ⟨y1, m1, hc1, hg⟩ := rf_b_some hg
    refine rf_calls C rf_fit0 j_max (As := [.int ((rf_i m 206 37 s1).1 206 38), .int ((rf_i m 206 37 s1).1 221 (Int32.toNatClampNeg a5))]) (rest := [.ref 206]) mw_max (c_max hc1) (by decide) lk_14_375 rfl rfl (Nat.le_of_ble_eq_true rfl) (by decide +kernel) ?_
    show rf_V 6 (rf_sh w) K 0 0 302 ([(0, .ref 206), (1, .int a1), (2, .int a2), (3, .long a3), (5, .int a5)], [.int y1, .ref 206], rf_MM w m1)
    refine rf_few [0, 1, 2, 3, 4] rfl ?_
    exact s_X14_goes_302 C hE hr168 a1 a2 a3 a5 y1 m1 hg
  · replace hg := (if_pos hc).symm.trans hg
    obtain ⟨q2, hg⟩ := rf_g_some hg
    refine rf_seg C [(.aload 0, 1), (.invokeinterface 14 25, 3), (.iload 5, 2), (.iaload, 1)] (pc' := 285) (S' := ([(0, .ref 206), (1, .int a1), (2, .int a2), (3, .long a3), (5, .int a5)], [.int ((rf_i m 206 37 s1).1 221 (Int32.toNatClampNeg a5)), .ref 206], rf_MM w (rf_i m 206 37 s1))) (by decide +kernel) rfl (rf_in_of q2) ?_
    refine rf_goto C 17 302 (by decide +kernel) ?_
    refine rf_few [0, 1, 2, 3, 4] rfl ?_
    exact s_X14_goes_302 C hE hr168 a1 a2 a3 a5 ((rf_i m 206 37 s1).1 221 (Int32.toNatClampNeg a5)) (rf_i m 206 37 s1) hg
theorem s_X14_goes_168_b {w : rf_w} {K : rf_K} {r : rf_m} (C : rf_Ctx 14 cX14_goes 6 6 (rf_sh w) K) (hE : rf_End none K (rf_sh w) 0 0 none (rf_MM w r)) {rec168 : Int32 → Int32 → Int64 → Int32 → rf_m → Option (rf_m)} (hr168 : ∀ (a1 : Int32) (a2 : Int32) (a3 : Int64) (a5 : Int32) (m : rf_m), rec168 a1 a2 a3 a5 m = some r → rf_V 6 (rf_sh w) K 0 0 168 ([(0, .ref 206), (1, .int a1), (2, .int a2), (3, .long a3), (5, .int a5)], [], rf_MM w m)) (a1 : Int32) (a2 : Int32) (a3 : Int64) (a5 : Int32) (m : rf_m) (hg : g_X14_goes_168_b w rec168 a1 a2 a3 a5 m = some r) : rf_V 6 (rf_sh w) K 0 0 168 ([(0, .ref 206), (1, .int a1), (2, .int a2), (3, .long a3), (5, .int a5)], [], rf_MM w m) := by
  unfold g_X14_goes_168_b at hg
  refine rf_seg C [(.iload 5, 2), (.aload 0, 1), (.invokeinterface 14 17, 3)] (pc' := 174) (S' := ([(0, .ref 206), (1, .int a1), (2, .int a2), (3, .long a3), (5, .int a5)], [.int (m.1 206 17), .int a5], rf_MM w m)) (by decide +kernel) rfl trivial ?_
  refine rf_icmp_ge C 169 343 (by decide +kernel) (fun hc => ?_) (fun hc => ?_)
  · replace hg := (if_pos hc).symm.trans hg
    refine rf_seg C [(.aload 0, 1), (.aload 0, 1), (.invokeinterface 14 34, 3)] (pc' := 348) (S' := ([(0, .ref 206), (1, .int a1), (2, .int a2), (3, .long a3), (5, .int a5)], [.int (m.1 206 34), .ref 206], rf_MM w m)) (by decide +kernel) rfl trivial ?_
    refine rf_if_ne C 8 356 (by decide +kernel) (fun hc => ?_) (fun hc => ?_)
    · replace hg := (if_neg hc).symm.trans hg
      obtain ⟨q0, hg⟩ := rf_g_some hg
      refine rf_seg C [(.lload 3, 1), (.aload 0, 1), (.invokeinterface 14 34, 3), (.i2l, 1), (.ldiv, 1), (.l2i, 1), (.multianewarray 14 36, 3), (.aload 0, 1), (.invokeinterface 14 34, 3)] (pc' := 371) (S' := ([(0, .ref 206), (1, .int a1), (2, .int a2), (3, .long a3), (5, .int a5)], [.int ((rf_i m 206 36 (Int64.toInt32 (a3 / (Int32.toInt64 (m.1 206 34))))).1 206 34)], rf_MM w (rf_i m 206 36 (Int64.toInt32 (a3 / (Int32.toInt64 (m.1 206 34))))))) (by decide +kernel) rfl (rf_nzl_of q0) ?_
      refine rf_if_le C 4 375 (by decide +kernel) (fun hc => ?_) (fun hc => ?_)
      · replace hg := (if_pos hc).symm.trans hg
        refine rf_seg C [(.aload 0, 1), (.iconst (-2), 2), (.multianewarray 14 37, 3), (.aload 0, 1), (.iconst (-2), 2), (.multianewarray 14 38, 3)] (pc' := 387) (S' := ([(0, .ref 206), (1, .int a1), (2, .int a2), (3, .long a3), (5, .int a5)], [], rf_MM w (rf_i (rf_i (rf_i m 206 36 (Int64.toInt32 (a3 / (Int32.toInt64 (m.1 206 34))))) 206 37 ((-2))) 206 38 ((-2))))) (by decide +kernel) rfl trivial ?_
        obtain rfl := Option.some.inj hg
        exact rf_vret C hE (by decide +kernel)
      · replace hg := (if_neg hc).symm.trans hg
        obtain rfl := Option.some.inj hg
        exact rf_vret C hE (by decide +kernel)
    · replace hg := (if_pos hc).symm.trans hg
      refine rf_seg C [(.iconst (-2), 2)] (pc' := 353) (S' := ([(0, .ref 206), (1, .int a1), (2, .int a2), (3, .long a3), (5, .int a5)], [.int ((-2)), .ref 206], rf_MM w m)) (by decide +kernel) rfl trivial ?_
      refine rf_goto C 11 364 (by decide +kernel) ?_
      refine rf_seg C [(.multianewarray 14 36, 3), (.aload 0, 1), (.invokeinterface 14 34, 3)] (pc' := 371) (S' := ([(0, .ref 206), (1, .int a1), (2, .int a2), (3, .long a3), (5, .int a5)], [.int ((rf_i m 206 36 ((-2))).1 206 34)], rf_MM w (rf_i m 206 36 ((-2))))) (by decide +kernel) rfl trivial ?_
      refine rf_if_le C 4 375 (by decide +kernel) (fun hc => ?_) (fun hc => ?_)
      · replace hg := (if_pos hc).symm.trans hg
        refine rf_seg C [(.aload 0, 1), (.iconst (-2), 2), (.multianewarray 14 37, 3), (.aload 0, 1), (.iconst (-2), 2), (.multianewarray 14 38, 3)] (pc' := 387) (S' := ([(0, .ref 206), (1, .int a1), (2, .int a2), (3, .long a3), (5, .int a5)], [], rf_MM w (rf_i (rf_i (rf_i m 206 36 ((-2))) 206 37 ((-2))) 206 38 ((-2))))) (by decide +kernel) rfl trivial ?_
        obtain rfl := Option.some.inj hg
        exact rf_vret C hE (by decide +kernel)
      · replace hg := (if_neg hc).symm.trans hg
        obtain rfl := Option.some.inj hg
        exact rf_vret C hE (by decide +kernel)
  · replace hg := (if_neg hc).symm.trans hg
    obtain ⟨q1, hg⟩ := rf_g_some hg
    refine rf_seg C [(.aload 0, 1), (.invokeinterface 14 24, 3), (.iload 5, 2), (.iaload, 1), (.iload 1, 1)] (pc' := 185) (S' := ([(0, .ref 206), (1, .int a1), (2, .int a2), (3, .long a3), (5, .int a5)], [.int a1, .int (m.1 220 (Int32.toNatClampNeg a5))], rf_MM w m)) (by decide +kernel) rfl (rf_in_of q1) ?_
    refine rf_icmp_ne C 152 337 (by decide +kernel) (fun hc => ?_) (fun hc => ?_)
    · replace hg := (if_neg hc).symm.trans hg
      refine rf_few [0, 1, 2, 3, 4] rfl ?_
      exact s_X14_goes_337 C hE hr168 a1 a2 a3 a5 m hg
    · replace hg := (if_pos hc).symm.trans hg
      obtain ⟨q2, hg⟩ := rf_g_some hg
      refine rf_seg C [(.aload 0, 1), (.invokeinterface 14 25, 3), (.iload 5, 2), (.iaload, 1), (.iconst (-2), 2)] (pc' := 197) (S' := ([(0, .ref 206), (1, .int a1), (2, .int a2), (3, .long a3), (5, .int a5)], [.int ((-2)), .int (m.1 221 (Int32.toNatClampNeg a5))], rf_MM w m)) (by decide +kernel) rfl (rf_in_of q2) ?_
      refine rf_icmp_eq C 140 337 (by decide +kernel) (fun hc => ?_) (fun hc => ?_)
      · replace hg := (if_pos hc).symm.trans hg
        refine rf_few [0, 1, 2, 3, 4] rfl ?_
        exact s_X14_goes_337 C hE hr168 a1 a2 a3 a5 m hg
      · replace hg := (if_neg hc).symm.trans hg
        obtain ⟨q3, hg⟩ := rf_g_some hg
        refine rf_seg C [(.aload 0, 1), (.invokeinterface 14 28, 3), (.iload 5, 2), (.iaload, 1), (.iload 2, 1)] (pc' := 208) (S' := ([(0, .ref 206), (1, .int a1), (2, .int a2), (3, .long a3), (5, .int a5)], [.int a2, .int (m.1 224 (Int32.toNatClampNeg a5))], rf_MM w m)) (by decide +kernel) rfl (rf_in_of q3) ?_
        refine rf_icmp_gt C 129 337 (by decide +kernel) (fun hc => ?_) (fun hc => ?_)
        · replace hg := (if_pos hc).symm.trans hg
          refine rf_few [0, 1, 2, 3, 4] rfl ?_
          exact s_X14_goes_337 C hE hr168 a1 a2 a3 a5 m hg
        · replace hg := (if_neg hc).symm.trans hg
          refine rf_seg C [(.aload 0, 1), (.iload 5, 2), (.iload 2, 1)] (pc' := 215) (S' := ([(0, .ref 206), (1, .int a1), (2, .int a2), (3, .long a3), (5, .int a5)], [.int a2, .int a5, .ref 206], rf_MM w m)) (by decide +kernel) rfl trivial ?_
          obtain ⟨y4, m4, hc4, hg⟩ := rf_b_some hg
          refine rf_callv C rf_fit0 j_X14_isStruckBy (ci := 14) (As := [.int a5, .int a2]) (rest := []) mw_X14_isStruckBy (c_X14_isStruckBy hc4) (by decide) rfl (by decide) lk_14_433 rfl rfl (Nat.le_of_ble_eq_true rfl) (by decide +kernel) ?_
          show rf_V 6 (rf_sh w) K 0 0 218 ([(0, .ref 206), (1, .int a1), (2, .int a2), (3, .long a3), (5, .int a5)], [.int y4], rf_MM w m4)
          refine rf_if_ne C 119 337 (by decide +kernel) (fun hc => ?_) (fun hc => ?_)
          · replace hg := (if_neg hc).symm.trans hg
            refine rf_few [0, 1, 2, 3, 4] rfl ?_
            exact s_X14_goes_337 C hE hr168 a1 a2 a3 a5 m4 hg
          · replace hg := (if_pos hc).symm.trans hg
            refine rf_seg C [(.aload 0, 1), (.iload 5, 2)] (pc' := 224) (S' := ([(0, .ref 206), (1, .int a1), (2, .int a2), (3, .long a3), (5, .int a5)], [.int a5, .ref 206], rf_MM w m4)) (by decide +kernel) rfl trivial ?_
            obtain ⟨y5, m5, hc5, hg⟩ := rf_b_some hg
            refine rf_callv C rf_fit0 j_X14_strikerOf (ci := 14) (As := [.int a5]) (rest := []) mw_X14_strikerOf (c_X14_strikerOf hc5) (by decide) rfl (by decide) lk_14_437 rfl rfl (Nat.le_of_ble_eq_true rfl) (by decide +kernel) ?_
            show rf_V 6 (rf_sh w) K 0 0 227 ([(0, .ref 206), (1, .int a1), (2, .int a2), (3, .long a3), (5, .int a5)], [.int y5], rf_MM w m5)
            refine rf_seg C [(.iconst (-2), 2)] (pc' := 229) (S' := ([(0, .ref 206), (1, .int a1), (2, .int a2), (3, .long a3), (5, .int a5)], [.int ((-2)), .int y5], rf_MM w m5)) (by decide +kernel) rfl trivial ?_
            refine rf_icmp_eq C 6 235 (by decide +kernel) (fun hc => ?_) (fun hc => ?_)
            · replace hg := (if_pos hc).symm.trans hg
              refine rf_seg C [(.aload 0, 1), (.aload 0, 1), (.invokeinterface 14 34, 3)] (pc' := 240) (S' := ([(0, .ref 206), (1, .int a1), (2, .int a2), (3, .long a3), (5, .int a5)], [.int (m5.1 206 34), .ref 206], rf_MM w m5)) (by decide +kernel) rfl trivial ?_
              refine rf_if_ne C 13 253 (by decide +kernel) (fun hc => ?_) (fun hc => ?_)
              · replace hg := (if_neg hc).symm.trans hg
                obtain ⟨q6, hg⟩ := rf_g_some hg
                refine rf_seg C [(.aload 0, 1), (.invokeinterface 14 37, 3), (.aload 0, 1), (.invokeinterface 14 25, 3), (.iload 5, 2), (.iaload, 1)] (pc' := 264) (S' := ([(0, .ref 206), (1, .int a1), (2, .int a2), (3, .long a3), (5, .int a5)], [.int (m5.1 221 (Int32.toNatClampNeg a5)), .int (m5.1 206 37), .ref 206], rf_MM w m5)) (by decide +kernel) rfl (rf_in_of q6) ?_
                obtain ⟨y7, m7, hc7, hg⟩ := rf_b_some hg
                refine rf_calls C rf_fit0 j_min (As := [.int (m5.1 206 37), .int (m5.1 221 (Int32.toNatClampNeg a5))]) (rest := [.ref 206]) mw_min (c_min hc7) (by decide) lk_14_443 rfl rfl (Nat.le_of_ble_eq_true rfl) (by decide +kernel) ?_
                show rf_V 6 (rf_sh w) K 0 0 267 ([(0, .ref 206), (1, .int a1), (2, .int a2), (3, .long a3), (5, .int a5)], [.int y7, .ref 206], rf_MM w m7)
                refine rf_few [0, 1, 2, 3, 4] rfl ?_
                exact s_X14_goes_267 C hE hr168 a1 a2 a3 a5 y7 m7 hg
              · replace hg := (if_pos hc).symm.trans hg
                obtain ⟨q8, hg⟩ := rf_g_some hg
                refine rf_seg C [(.aload 0, 1), (.invokeinterface 14 25, 3), (.iload 5, 2), (.iaload, 1)] (pc' := 250) (S' := ([(0, .ref 206), (1, .int a1), (2, .int a2), (3, .long a3), (5, .int a5)], [.int (m5.1 221 (Int32.toNatClampNeg a5)), .ref 206], rf_MM w m5)) (by decide +kernel) rfl (rf_in_of q8) ?_
                refine rf_goto C 17 267 (by decide +kernel) ?_
                refine rf_few [0, 1, 2, 3, 4] rfl ?_
                exact s_X14_goes_267 C hE hr168 a1 a2 a3 a5 (m5.1 221 (Int32.toNatClampNeg a5)) m5 hg
            · replace hg := (if_neg hc).symm.trans hg
              refine rf_goto C 105 337 (by decide +kernel) ?_
              refine rf_few [0, 1, 2, 3, 4] rfl ?_
              exact s_X14_goes_337 C hE hr168 a1 a2 a3 a5 m5 hg
theorem s_X14_goes_168 {w : rf_w} {K : rf_K} {r : rf_m} (C : rf_Ctx 14 cX14_goes 6 6 (rf_sh w) K) (hE : rf_End none K (rf_sh w) 0 0 none (rf_MM w r)) (n : Nat) : ∀ (a1 : Int32) (a2 : Int32) (a3 : Int64) (a5 : Int32) (m : rf_m), g_X14_goes_168 w n a1 a2 a3 a5 m = some r → rf_V 6 (rf_sh w) K 0 0 168 ([(0, .ref 206), (1, .int a1), (2, .int a2), (3, .long a3), (5, .int a5)], [], rf_MM w m) := by
  induction n with
  | zero => intro a1 a2 a3 a5 m hg; cases hg
  | succ n ih => intro a1 a2 a3 a5 m hg; exact s_X14_goes_168_b C hE ih a1 a2 a3 a5 m hg
theorem s_X14_goes_155 {w : rf_w} {K : rf_K} {r : rf_m} (C : rf_Ctx 14 cX14_goes 6 6 (rf_sh w) K) (hE : rf_End none K (rf_sh w) 0 0 none (rf_MM w r)) (a1 : Int32) (a2 : Int32) (s1 : Int32) (m : rf_m) (hg : g_X14_goes_155 w a1 a2 s1 m = some r) : rf_V 6 (rf_sh w) K 0 0 155 ([(0, .ref 206), (1, .int a1), (2, .int a2)], [.int s1, .ref 206], rf_MM w m) := by
  unfold g_X14_goes_155 at hg
  refine rf_seg C [(.multianewarray 14 35, 3), (.aload 0, 1), (.iconst 0, 1), (.multianewarray 14 34, 3), (.goto_w 0, 1), (.lstore 3, 1), (.iconst 0, 1), (.istore 5, 2)] (pc' := 168) (S' := ([(5, .int 0), (3, .long 0), (0, .ref 206), (1, .int a1), (2, .int a2)], [], rf_MM w (rf_i (rf_i m 206 35 s1) 206 34 0))) (by decide +kernel) rfl trivial ?_
  refine rf_few [2, 3, 4, 1, 0] rfl ?_
  exact s_X14_goes_168 C hE rf_fuel a1 a2 0 0 (rf_i (rf_i m 206 35 s1) 206 34 0) hg
theorem s_X14_goes_123 {w : rf_w} {K : rf_K} {r : rf_m} (C : rf_Ctx 14 cX14_goes 6 6 (rf_sh w) K) (hE : rf_End none K (rf_sh w) 0 0 none (rf_MM w r)) {rec7 : Int32 → Int32 → Int32 → rf_m → Option (rf_m)} (hr7 : ∀ (a1 : Int32) (a2 : Int32) (a3 : Int32) (m : rf_m), rec7 a1 a2 a3 m = some r → rf_V 6 (rf_sh w) K 0 0 7 ([(0, .ref 206), (1, .int a1), (2, .int a2), (3, .int a3)], [], rf_MM w m)) (a1 : Int32) (a2 : Int32) (a3 : Int32) (m : rf_m) (hg : g_X14_goes_123 w rec7 a1 a2 a3 m = some r) : rf_V 6 (rf_sh w) K 0 0 123 ([(0, .ref 206), (1, .int a1), (2, .int a2), (3, .int a3)], [], rf_MM w m) := by
  unfold g_X14_goes_123 at hg
  refine rf_seg C [(.iinc 3 1, 3)] (pc' := 126) (S' := ([(3, .int (a3 + 1)), (0, .ref 206), (1, .int a1), (2, .int a2)], [], rf_MM w m)) (by decide +kernel) rfl trivial ?_
  refine rf_goto C (-119) 7 (by decide +kernel) ?_
  refine rf_few [1, 2, 3, 0] rfl ?_
  exact hr7 a1 a2 (a3 + 1) m hg
theorem s_X14_goes_100 {w : rf_w} {K : rf_K} {r : rf_m} (C : rf_Ctx 14 cX14_goes 6 6 (rf_sh w) K) (hE : rf_End none K (rf_sh w) 0 0 none (rf_MM w r)) {rec7 : Int32 → Int32 → Int32 → rf_m → Option (rf_m)} (hr7 : ∀ (a1 : Int32) (a2 : Int32) (a3 : Int32) (m : rf_m), rec7 a1 a2 a3 m = some r → rf_V 6 (rf_sh w) K 0 0 7 ([(0, .ref 206), (1, .int a1), (2, .int a2), (3, .int a3)], [], rf_MM w m)) (a1 : Int32) (a2 : Int32) (a3 : Int32) (a4 : Int32) (m : rf_m) (hg : g_X14_goes_100 w rec7 a1 a2 a3 a4 m = some r) : rf_V 6 (rf_sh w) K 0 0 100 ([(0, .ref 206), (1, .int a1), (2, .int a2), (3, .int a3), (4, .int a4)], [], rf_MM w m) := by
  unfold g_X14_goes_100 at hg
  obtain ⟨q0, hg⟩ := rf_g_some hg
  obtain ⟨q1, hg⟩ := rf_g_some hg
  refine rf_seg C [(.aload 0, 1), (.invokeinterface 14 30, 3), (.iload 4, 2), (.aload 0, 1), (.invokeinterface 14 25, 3), (.iload 3, 1), (.iaload, 1), (.iastore, 1), (.aload 0, 1), (.dup, 1), (.invokeinterface 14 33, 3), (.iconst 1, 1), (.iadd, 1), (.multianewarray 14 33, 3)] (pc' := 123) (S' := ([(0, .ref 206), (1, .int a1), (2, .int a2), (3, .int a3), (4, .int a4)], [], rf_MM w (rf_i (rf_i m 226 (Int32.toNatClampNeg a4) (m.1 221 (Int32.toNatClampNeg a3))) 206 33 (((rf_i m 226 (Int32.toNatClampNeg a4) (m.1 221 (Int32.toNatClampNeg a3))).1 206 33) + 1)))) (by decide +kernel) rfl (by exact ⟨(rf_in_of q0), (rf_in_of q1)⟩) ?_
  refine rf_few [0, 1, 2, 3] rfl ?_
  exact s_X14_goes_123 C hE hr7 a1 a2 a3 (rf_i (rf_i m 226 (Int32.toNatClampNeg a4) (m.1 221 (Int32.toNatClampNeg a3))) 206 33 (((rf_i m 226 (Int32.toNatClampNeg a4) (m.1 221 (Int32.toNatClampNeg a3))).1 206 33) + 1)) hg
theorem s_X14_goes_55_b {w : rf_w} {K : rf_K} {r : rf_m} (C : rf_Ctx 14 cX14_goes 6 6 (rf_sh w) K) (hE : rf_End none K (rf_sh w) 0 0 none (rf_MM w r)) {rec7 : Int32 → Int32 → Int32 → rf_m → Option (rf_m)} {rec55 : Int32 → Int32 → Int32 → Int32 → rf_m → Option (rf_m)} (hr7 : ∀ (a1 : Int32) (a2 : Int32) (a3 : Int32) (m : rf_m), rec7 a1 a2 a3 m = some r → rf_V 6 (rf_sh w) K 0 0 7 ([(0, .ref 206), (1, .int a1), (2, .int a2), (3, .int a3)], [], rf_MM w m)) (hr55 : ∀ (a1 : Int32) (a2 : Int32) (a3 : Int32) (a4 : Int32) (m : rf_m), rec55 a1 a2 a3 a4 m = some r → rf_V 6 (rf_sh w) K 0 0 55 ([(0, .ref 206), (1, .int a1), (2, .int a2), (3, .int a3), (4, .int a4)], [], rf_MM w m)) (a1 : Int32) (a2 : Int32) (a3 : Int32) (a4 : Int32) (m : rf_m) (hg : g_X14_goes_55_b w rec7 rec55 a1 a2 a3 a4 m = some r) : rf_V 6 (rf_sh w) K 0 0 55 ([(0, .ref 206), (1, .int a1), (2, .int a2), (3, .int a3), (4, .int a4)], [], rf_MM w m) := by
  unfold g_X14_goes_55_b at hg
  refine rf_seg C [(.iload 4, 2)] (pc' := 57) (S' := ([(0, .ref 206), (1, .int a1), (2, .int a2), (3, .int a3), (4, .int a4)], [.int a4], rf_MM w m)) (by decide +kernel) rfl trivial ?_
  refine rf_if_le C 43 100 (by decide +kernel) (fun hc => ?_) (fun hc => ?_)
  · replace hg := (if_pos hc).symm.trans hg
    refine rf_few [0, 1, 2, 3, 4] rfl ?_
    exact s_X14_goes_100 C hE hr7 a1 a2 a3 a4 m hg
  · replace hg := (if_neg hc).symm.trans hg
    obtain ⟨q0, hg⟩ := rf_g_some hg
    obtain ⟨q1, hg⟩ := rf_g_some hg
    refine rf_seg C [(.aload 0, 1), (.invokeinterface 14 30, 3), (.iload 4, 2), (.iconst 1, 1), (.isub, 1), (.iaload, 1), (.aload 0, 1), (.invokeinterface 14 25, 3), (.iload 3, 1), (.iaload, 1)] (pc' := 75) (S' := ([(0, .ref 206), (1, .int a1), (2, .int a2), (3, .int a3), (4, .int a4)], [.int (m.1 221 (Int32.toNatClampNeg a3)), .int (m.1 226 (Int32.toNatClampNeg (a4 - 1)))], rf_MM w m)) (by decide +kernel) rfl (by exact ⟨(rf_in_of q0), (rf_in_of q1)⟩) ?_
    refine rf_icmp_le C 25 100 (by decide +kernel) (fun hc => ?_) (fun hc => ?_)
    · replace hg := (if_pos hc).symm.trans hg
      refine rf_few [0, 1, 2, 3, 4] rfl ?_
      exact s_X14_goes_100 C hE hr7 a1 a2 a3 a4 m hg
    · replace hg := (if_neg hc).symm.trans hg
      obtain ⟨q2, hg⟩ := rf_g_some hg
      obtain ⟨q3, hg⟩ := rf_g_some hg
      refine rf_seg C [(.aload 0, 1), (.invokeinterface 14 30, 3), (.iload 4, 2), (.aload 0, 1), (.invokeinterface 14 30, 3), (.iload 4, 2), (.iconst 1, 1), (.isub, 1), (.iaload, 1), (.iastore, 1), (.iinc 4 (-1), 3)] (pc' := 97) (S' := ([(4, .int (a4 + (-1))), (0, .ref 206), (1, .int a1), (2, .int a2), (3, .int a3)], [], rf_MM w (rf_i m 226 (Int32.toNatClampNeg a4) (m.1 226 (Int32.toNatClampNeg (a4 - 1)))))) (by decide +kernel) rfl (by exact ⟨(rf_in_of q2), (rf_in_of q3)⟩) ?_
      refine rf_goto C (-42) 55 (by decide +kernel) ?_
      refine rf_few [1, 2, 3, 4, 0] rfl ?_
      exact hr55 a1 a2 a3 (a4 + (-1)) (rf_i m 226 (Int32.toNatClampNeg a4) (m.1 226 (Int32.toNatClampNeg (a4 - 1)))) hg
theorem s_X14_goes_55 {w : rf_w} {K : rf_K} {r : rf_m} (C : rf_Ctx 14 cX14_goes 6 6 (rf_sh w) K) (hE : rf_End none K (rf_sh w) 0 0 none (rf_MM w r)) {rec7 : Int32 → Int32 → Int32 → rf_m → Option (rf_m)} (hr7 : ∀ (a1 : Int32) (a2 : Int32) (a3 : Int32) (m : rf_m), rec7 a1 a2 a3 m = some r → rf_V 6 (rf_sh w) K 0 0 7 ([(0, .ref 206), (1, .int a1), (2, .int a2), (3, .int a3)], [], rf_MM w m)) (n : Nat) : ∀ (a1 : Int32) (a2 : Int32) (a3 : Int32) (a4 : Int32) (m : rf_m), g_X14_goes_55 w rec7 n a1 a2 a3 a4 m = some r → rf_V 6 (rf_sh w) K 0 0 55 ([(0, .ref 206), (1, .int a1), (2, .int a2), (3, .int a3), (4, .int a4)], [], rf_MM w m) := by
  induction n with
  | zero => intro a1 a2 a3 a4 m hg; cases hg
  | succ n ih => intro a1 a2 a3 a4 m hg; exact s_X14_goes_55_b C hE hr7 ih a1 a2 a3 a4 m hg
theorem s_X14_goes_7_b {w : rf_w} {K : rf_K} {r : rf_m} (C : rf_Ctx 14 cX14_goes 6 6 (rf_sh w) K) (hE : rf_End none K (rf_sh w) 0 0 none (rf_MM w r)) {rec7 : Int32 → Int32 → Int32 → rf_m → Option (rf_m)} (hr7 : ∀ (a1 : Int32) (a2 : Int32) (a3 : Int32) (m : rf_m), rec7 a1 a2 a3 m = some r → rf_V 6 (rf_sh w) K 0 0 7 ([(0, .ref 206), (1, .int a1), (2, .int a2), (3, .int a3)], [], rf_MM w m)) (a1 : Int32) (a2 : Int32) (a3 : Int32) (m : rf_m) (hg : g_X14_goes_7_b w rec7 a1 a2 a3 m = some r) : rf_V 6 (rf_sh w) K 0 0 7 ([(0, .ref 206), (1, .int a1), (2, .int a2), (3, .int a3)], [], rf_MM w m) := by
  unfold g_X14_goes_7_b at hg
  refine rf_seg C [(.iload 3, 1), (.aload 0, 1), (.invokeinterface 14 17, 3)] (pc' := 12) (S' := ([(0, .ref 206), (1, .int a1), (2, .int a2), (3, .int a3)], [.int (m.1 206 17), .int a3], rf_MM w m)) (by decide +kernel) rfl trivial ?_
  refine rf_icmp_ge C 117 129 (by decide +kernel) (fun hc => ?_) (fun hc => ?_)
  · replace hg := (if_pos hc).symm.trans hg
    refine rf_seg C [(.aload 0, 1), (.aload 0, 1), (.invokeinterface 14 33, 3)] (pc' := 134) (S' := ([(0, .ref 206), (1, .int a1), (2, .int a2), (3, .int a3)], [.int (m.1 206 33), .ref 206], rf_MM w m)) (by decide +kernel) rfl trivial ?_
    refine rf_if_ne C 8 142 (by decide +kernel) (fun hc => ?_) (fun hc => ?_)
    · replace hg := (if_neg hc).symm.trans hg
      obtain ⟨q0, hg⟩ := rf_g_some hg
      refine rf_seg C [(.aload 0, 1), (.invokeinterface 14 30, 3), (.aload 0, 1), (.invokeinterface 14 33, 3), (.iconst 1, 1), (.isub, 1), (.iconst 2, 1), (.idiv, 1), (.iaload, 1)] (pc' := 155) (S' := ([(0, .ref 206), (1, .int a1), (2, .int a2), (3, .int a3)], [.int (m.1 226 (Int32.toNatClampNeg (((m.1 206 33) - 1) / 2))), .ref 206], rf_MM w m)) (by decide +kernel) rfl (by exact ⟨(rf_nz_of (by decide)), (rf_in_of q0)⟩) ?_
      refine rf_few [0, 1, 2] rfl ?_
      exact s_X14_goes_155 C hE a1 a2 (m.1 226 (Int32.toNatClampNeg (((m.1 206 33) - 1) / 2))) m hg
    · replace hg := (if_pos hc).symm.trans hg
      refine rf_seg C [(.iconst (-2), 2)] (pc' := 139) (S' := ([(0, .ref 206), (1, .int a1), (2, .int a2), (3, .int a3)], [.int ((-2)), .ref 206], rf_MM w m)) (by decide +kernel) rfl trivial ?_
      refine rf_goto C 16 155 (by decide +kernel) ?_
      refine rf_few [0, 1, 2] rfl ?_
      exact s_X14_goes_155 C hE a1 a2 ((-2)) m hg
  · replace hg := (if_neg hc).symm.trans hg
    obtain ⟨q1, hg⟩ := rf_g_some hg
    refine rf_seg C [(.aload 0, 1), (.invokeinterface 14 24, 3), (.iload 3, 1), (.iaload, 1), (.iload 1, 1)] (pc' := 22) (S' := ([(0, .ref 206), (1, .int a1), (2, .int a2), (3, .int a3)], [.int a1, .int (m.1 220 (Int32.toNatClampNeg a3))], rf_MM w m)) (by decide +kernel) rfl (rf_in_of q1) ?_
    refine rf_icmp_ne C 101 123 (by decide +kernel) (fun hc => ?_) (fun hc => ?_)
    · replace hg := (if_neg hc).symm.trans hg
      refine rf_few [0, 1, 2, 3] rfl ?_
      exact s_X14_goes_123 C hE hr7 a1 a2 a3 m hg
    · replace hg := (if_pos hc).symm.trans hg
      obtain ⟨q2, hg⟩ := rf_g_some hg
      refine rf_seg C [(.aload 0, 1), (.invokeinterface 14 25, 3), (.iload 3, 1), (.iaload, 1), (.iconst (-2), 2)] (pc' := 33) (S' := ([(0, .ref 206), (1, .int a1), (2, .int a2), (3, .int a3)], [.int ((-2)), .int (m.1 221 (Int32.toNatClampNeg a3))], rf_MM w m)) (by decide +kernel) rfl (rf_in_of q2) ?_
      refine rf_icmp_eq C 90 123 (by decide +kernel) (fun hc => ?_) (fun hc => ?_)
      · replace hg := (if_pos hc).symm.trans hg
        refine rf_few [0, 1, 2, 3] rfl ?_
        exact s_X14_goes_123 C hE hr7 a1 a2 a3 m hg
      · replace hg := (if_neg hc).symm.trans hg
        obtain ⟨q3, hg⟩ := rf_g_some hg
        refine rf_seg C [(.aload 0, 1), (.invokeinterface 14 28, 3), (.iload 3, 1), (.iaload, 1), (.iload 2, 1)] (pc' := 43) (S' := ([(0, .ref 206), (1, .int a1), (2, .int a2), (3, .int a3)], [.int a2, .int (m.1 224 (Int32.toNatClampNeg a3))], rf_MM w m)) (by decide +kernel) rfl (rf_in_of q3) ?_
        refine rf_icmp_le C 6 49 (by decide +kernel) (fun hc => ?_) (fun hc => ?_)
        · replace hg := (if_pos hc).symm.trans hg
          refine rf_seg C [(.aload 0, 1), (.invokeinterface 14 33, 3), (.istore 4, 2)] (pc' := 55) (S' := ([(4, .int (m.1 206 33)), (0, .ref 206), (1, .int a1), (2, .int a2), (3, .int a3)], [], rf_MM w m)) (by decide +kernel) rfl trivial ?_
          refine rf_few [1, 2, 3, 4, 0] rfl ?_
          exact s_X14_goes_55 C hE hr7 rf_fuel a1 a2 a3 (m.1 206 33) m hg
        · replace hg := (if_neg hc).symm.trans hg
          refine rf_goto C 77 123 (by decide +kernel) ?_
          refine rf_few [0, 1, 2, 3] rfl ?_
          exact s_X14_goes_123 C hE hr7 a1 a2 a3 m hg
theorem s_X14_goes_7 {w : rf_w} {K : rf_K} {r : rf_m} (C : rf_Ctx 14 cX14_goes 6 6 (rf_sh w) K) (hE : rf_End none K (rf_sh w) 0 0 none (rf_MM w r)) (n : Nat) : ∀ (a1 : Int32) (a2 : Int32) (a3 : Int32) (m : rf_m), g_X14_goes_7 w n a1 a2 a3 m = some r → rf_V 6 (rf_sh w) K 0 0 7 ([(0, .ref 206), (1, .int a1), (2, .int a2), (3, .int a3)], [], rf_MM w m) := by
  induction n with
  | zero => intro a1 a2 a3 m hg; cases hg
  | succ n ih => intro a1 a2 a3 m hg; exact s_X14_goes_7_b C hE ih a1 a2 a3 m hg
theorem c_X14_goes {w : rf_w} {m : rf_m} {a1 : Int32} {a2 : Int32} {r : rf_m} (hg : g_X14_goes w m a1 a2 = some r) : rf_Con j_X14_goes 6 (rf_sh w) [.ref 206, .int a1, .int a2] (rf_MM w m) none (rf_MM w r) := by
  refine rf_con j_X14_goes 6 ⟨by decide +kernel, rfl, Nat.le_of_ble_eq_true rfl⟩ (fun K C hE => ?_)
  unfold g_X14_goes at hg
  show rf_V 6 (rf_sh w) K 0 0 0 ([(0, .ref 206), (1, .int a1), (2, .int a2)], [], rf_MM w m)
  refine rf_seg C [(.aload 0, 1), (.iconst 0, 1), (.multianewarray 14 33, 3), (.iconst 0, 1), (.istore 3, 1)] (pc' := 7) (S' := ([(3, .int 0), (0, .ref 206), (1, .int a1), (2, .int a2)], [], rf_MM w (rf_i m 206 33 0))) (by decide +kernel) rfl trivial ?_
  refine rf_few [1, 2, 3, 0] rfl ?_
  exact s_X14_goes_7 C hE rf_fuel a1 a2 0 (rf_i m 206 33 0) hg
-- X14_now
abbrev j_X14_now : rf_J := (14, yX14_now, cX14_now, 2, none)
theorem mw_X14_now : rf_mv j_X14_now (rf_R 14) 1 := ⟨⟨rf_mem 28 (by decide +kernel), rf_mem 28 (by decide +kernel), rf_mem 0 (by decide +kernel), rf_mem 28 (by decide +kernel)⟩, by decide +kernel, by decide⟩
def g_X14_now (w : rf_w) (m : rf_m) (a1 : Int32) : Option (rf_m) := rf_bv (g_X14_goes w m a1 10000) fun m0 => some m0
theorem c_X14_now {w : rf_w} {m : rf_m} {a1 : Int32} {r : rf_m} (hg : g_X14_now w m a1 = some r) : rf_Con j_X14_now 7 (rf_sh w) [.ref 206, .int a1] (rf_MM w m) none (rf_MM w r) := by
  refine rf_con j_X14_now 7 ⟨by decide +kernel, rfl, Nat.le_of_ble_eq_true rfl⟩ (fun K C hE => ?_)
  unfold g_X14_now at hg
  show rf_V 2 (rf_sh w) K 0 0 0 ([(0, .ref 206), (1, .int a1)], [], rf_MM w m)
  refine rf_seg C [(.aload 0, 1), (.iload 1, 1), (.iconst 10000, 3)] (pc' := 5) (S' := ([(0, .ref 206), (1, .int a1)], [.int 10000, .int a1, .ref 206], rf_MM w m)) (by decide +kernel) rfl trivial ?_
  obtain ⟨m0, hc0, hg⟩ := rf_bv_some hg
  refine rf_callv C rf_fit0 j_X14_goes (ci := 14) (As := [.int a1, .int 10000]) (rest := []) mw_X14_goes (c_X14_goes hc0) (by decide) rfl (by decide) lk_14_465 rfl rfl (Nat.le_of_ble_eq_true rfl) (by decide +kernel) ?_
  show rf_V 2 (rf_sh w) K 0 0 8 ([(0, .ref 206), (1, .int a1)], [], rf_MM w m0)
  obtain rfl := Option.some.inj hg
  exact rf_vret C hE (by decide +kernel)
-- X14_meanOf
abbrev j_X14_meanOf : rf_J := (14, yX14_meanOf, cX14_meanOf, 2, (some .int))
theorem mw_X14_meanOf : rf_mv j_X14_meanOf (rf_R 14) 1 := ⟨⟨rf_mem 61 (by decide +kernel), rf_mem 61 (by decide +kernel), rf_mem 0 (by decide +kernel), rf_mem 61 (by decide +kernel)⟩, by decide +kernel, by decide⟩
def g_X14_meanOf (w : rf_w) (m : rf_m) (a1 : Int32) : Option (Int32 × rf_m) := rf_bv (g_X14_now w m a1) fun m0 => some (m0.1 206 36, m0)
theorem c_X14_meanOf {w : rf_w} {m : rf_m} {a1 : Int32} {r : Int32 × rf_m} (hg : g_X14_meanOf w m a1 = some r) : rf_Con j_X14_meanOf 8 (rf_sh w) [.ref 206, .int a1] (rf_MM w m) (some (.int r.1)) (rf_MM w r.2) := by
  refine rf_con j_X14_meanOf 8 ⟨by decide +kernel, rfl, Nat.le_of_ble_eq_true rfl⟩ (fun K C hE => ?_)
  unfold g_X14_meanOf at hg
  show rf_V 2 (rf_sh w) K 0 0 0 ([(0, .ref 206), (1, .int a1)], [], rf_MM w m)
  refine rf_seg C [(.aload 0, 1), (.iload 1, 1)] (pc' := 2) (S' := ([(0, .ref 206), (1, .int a1)], [.int a1, .ref 206], rf_MM w m)) (by decide +kernel) rfl trivial ?_
  obtain ⟨m0, hc0, hg⟩ := rf_bv_some hg
  refine rf_callv C rf_fit0 j_X14_now (ci := 14) (As := [.int a1]) (rest := []) mw_X14_now (c_X14_now hc0) (by decide) rfl (by decide) lk_14_469 rfl rfl (Nat.le_of_ble_eq_true rfl) (by decide +kernel) ?_
  show rf_V 2 (rf_sh w) K 0 0 5 ([(0, .ref 206), (1, .int a1)], [], rf_MM w m0)
  refine rf_seg C [(.aload 0, 1), (.invokeinterface 14 36, 3)] (pc' := 9) (S' := ([(0, .ref 206), (1, .int a1)], [.int (m0.1 206 36)], rf_MM w m0)) (by decide +kernel) rfl trivial ?_
  obtain rfl := Option.some.inj hg
  exact rf_iret C hE (by decide +kernel)
-- X14_reading
abbrev j_X14_reading : rf_J := (14, yX14_reading, cX14_reading, 5, (some .int))
theorem mw_X14_reading : rf_mv j_X14_reading (rf_R 14) 2 := ⟨⟨rf_mem 28 (by decide +kernel), rf_mem 28 (by decide +kernel), rf_mem 0 (by decide +kernel), rf_mem 28 (by decide +kernel)⟩, by decide +kernel, by decide⟩
def g_X14_reading_56 (w : rf_w) (a1 : Int32) (a2 : Int32) (a3 : Int32) (s0 : Int32) (m : rf_m) : Option (Int32 × rf_m) := (if a2 = 0 then rf_g (rf_in a1 1200) (some (m.1 220 (Int32.toNatClampNeg a1), m)) else if a2 = 1 then rf_g (rf_in a1 1200) (some (m.1 221 (Int32.toNatClampNeg a1), m)) else if a2 = 2 then rf_g (rf_in a1 1200) (some (m.1 222 (Int32.toNatClampNeg a1), m)) else if a2 = 3 then rf_g (rf_in a1 1200) (some (m.1 223 (Int32.toNatClampNeg a1), m)) else if a2 = 4 then rf_g (rf_in a1 1200) (some (m.1 224 (Int32.toNatClampNeg a1), m)) else if a2 = 5 then rf_g (rf_in a1 1200) ((if (m.1 216 (Int32.toNatClampNeg a1)) = 0 then some (0, m) else some (1, m))) else if a2 = 6 then some (s0, m) else if a2 = 7 then (if a3 = 0 then some (0, m) else rf_g (rf_in a1 1200) ((if (m.1 216 (Int32.toNatClampNeg a1)) = 0 then (if s0 = ((-2)) then some (1, m) else some (0, m)) else some (0, m)))) else if a2 = 8 then (if a3 = 0 then some ((-2), m) else rf_g (rf_in a1 1200) (rf_b (g_abs w m ((m.1 221 (Int32.toNatClampNeg a1)) - (m.1 206 35))) fun y8 m8 => some (y8, m8))) else some ((-1), m))
def g_X14_reading_41 (w : rf_w) (a1 : Int32) (a2 : Int32) (s0 : Int32) (m : rf_m) : Option (Int32 × rf_m) := (if s0 = 0 then g_X14_reading_56 w a1 a2 s0 ((-2)) m else rf_b (g_X14_strikerOf w m a1) fun y0 m0 => g_X14_reading_56 w a1 a2 s0 y0 m0)
def g_X14_reading (w : rf_w) (m : rf_m) (a1 : Int32) (a2 : Int32) : Option (Int32 × rf_m) := rf_b (g_X14_isReading w (rf_i m 206 0 0) a1) fun y0 m0 => (if y0 = 0 then some ((-1), m0) else rf_g (rf_in a1 1200) (rf_bv (g_X14_now w m0 (m0.1 220 (Int32.toNatClampNeg a1))) fun m2 => rf_g (rf_in a1 1200) ((if (m2.1 221 (Int32.toNatClampNeg a1)) = ((-2)) then g_X14_reading_41 w a1 a2 0 m2 else g_X14_reading_41 w a1 a2 1 m2))))
theorem s_X14_reading_56 {w : rf_w} {K : rf_K} {r : Int32 × rf_m} (C : rf_Ctx 14 cX14_reading 5 8 (rf_sh w) K) (hE : rf_End (some .int) K (rf_sh w) 0 0 (some (.int r.1)) (rf_MM w r.2)) (a1 : Int32) (a2 : Int32) (a3 : Int32) (s0 : Int32) (m : rf_m) (hg : g_X14_reading_56 w a1 a2 a3 s0 m = some r) : rf_V 5 (rf_sh w) K 0 0 56 ([(0, .ref 206), (1, .int a1), (2, .int a2), (3, .int a3)], [.int s0], rf_MM w m) := by
  unfold g_X14_reading_56 at hg
  refine rf_seg C [(.istore 4, 2), (.iload 2, 1)] (pc' := 59) (S' := ([(4, .int s0), (0, .ref 206), (1, .int a1), (2, .int a2), (3, .int a3)], [.int a2], rf_MM w m)) (by decide +kernel) rfl trivial ?_
  by_cases ht0 : a2 = 0
  · replace hg := (if_pos ht0).symm.trans hg
    refine rf_tabc C ht0 108 (by decide +kernel) ?_
    obtain ⟨q0, hg⟩ := rf_g_some hg
    refine rf_seg C [(.aload 0, 1), (.invokeinterface 14 24, 3), (.iload 1, 1), (.iaload, 1)] (pc' := 114) (S' := ([(4, .int s0), (0, .ref 206), (1, .int a1), (2, .int a2), (3, .int a3)], [.int (m.1 220 (Int32.toNatClampNeg a1))], rf_MM w m)) (by decide +kernel) rfl (rf_in_of q0) ?_
    obtain rfl := Option.some.inj hg
    exact rf_iret C hE (by decide +kernel)
  · replace hg := (if_neg ht0).symm.trans hg
    by_cases ht1 : a2 = 1
    · replace hg := (if_pos ht1).symm.trans hg
      refine rf_tabc C ht1 115 (by decide +kernel) ?_
      obtain ⟨q1, hg⟩ := rf_g_some hg
      refine rf_seg C [(.aload 0, 1), (.invokeinterface 14 25, 3), (.iload 1, 1), (.iaload, 1)] (pc' := 121) (S' := ([(4, .int s0), (0, .ref 206), (1, .int a1), (2, .int a2), (3, .int a3)], [.int (m.1 221 (Int32.toNatClampNeg a1))], rf_MM w m)) (by decide +kernel) rfl (rf_in_of q1) ?_
      obtain rfl := Option.some.inj hg
      exact rf_iret C hE (by decide +kernel)
    · replace hg := (if_neg ht1).symm.trans hg
      by_cases ht2 : a2 = 2
      · replace hg := (if_pos ht2).symm.trans hg
        refine rf_tabc C ht2 122 (by decide +kernel) ?_
        obtain ⟨q2, hg⟩ := rf_g_some hg
        refine rf_seg C [(.aload 0, 1), (.invokeinterface 14 26, 3), (.iload 1, 1), (.iaload, 1)] (pc' := 128) (S' := ([(4, .int s0), (0, .ref 206), (1, .int a1), (2, .int a2), (3, .int a3)], [.int (m.1 222 (Int32.toNatClampNeg a1))], rf_MM w m)) (by decide +kernel) rfl (rf_in_of q2) ?_
        obtain rfl := Option.some.inj hg
        exact rf_iret C hE (by decide +kernel)
      · replace hg := (if_neg ht2).symm.trans hg
        by_cases ht3 : a2 = 3
        · replace hg := (if_pos ht3).symm.trans hg
          refine rf_tabc C ht3 129 (by decide +kernel) ?_
          obtain ⟨q3, hg⟩ := rf_g_some hg
          refine rf_seg C [(.aload 0, 1), (.invokeinterface 14 27, 3), (.iload 1, 1), (.iaload, 1)] (pc' := 135) (S' := ([(4, .int s0), (0, .ref 206), (1, .int a1), (2, .int a2), (3, .int a3)], [.int (m.1 223 (Int32.toNatClampNeg a1))], rf_MM w m)) (by decide +kernel) rfl (rf_in_of q3) ?_
          obtain rfl := Option.some.inj hg
          exact rf_iret C hE (by decide +kernel)
        · replace hg := (if_neg ht3).symm.trans hg
          by_cases ht4 : a2 = 4
          · replace hg := (if_pos ht4).symm.trans hg
            refine rf_tabc C ht4 136 (by decide +kernel) ?_
            obtain ⟨q4, hg⟩ := rf_g_some hg
            refine rf_seg C [(.aload 0, 1), (.invokeinterface 14 28, 3), (.iload 1, 1), (.iaload, 1)] (pc' := 142) (S' := ([(4, .int s0), (0, .ref 206), (1, .int a1), (2, .int a2), (3, .int a3)], [.int (m.1 224 (Int32.toNatClampNeg a1))], rf_MM w m)) (by decide +kernel) rfl (rf_in_of q4) ?_
            obtain rfl := Option.some.inj hg
            exact rf_iret C hE (by decide +kernel)
          · replace hg := (if_neg ht4).symm.trans hg
            by_cases ht5 : a2 = 5
            · replace hg := (if_pos ht5).symm.trans hg
              refine rf_tabc C ht5 143 (by decide +kernel) ?_
              obtain ⟨q5, hg⟩ := rf_g_some hg
              refine rf_seg C [(.aload 0, 1), (.invokeinterface 14 20, 3), (.iload 1, 1), (.baload, 1)] (pc' := 149) (S' := ([(4, .int s0), (0, .ref 206), (1, .int a1), (2, .int a2), (3, .int a3)], [.int (m.1 216 (Int32.toNatClampNeg a1))], rf_MM w m)) (by decide +kernel) rfl (rf_in_of q5) ?_
              refine rf_if_eq C 7 156 (by decide +kernel) (fun hc => ?_) (fun hc => ?_)
              · replace hg := (if_pos hc).symm.trans hg
                refine rf_seg C [(.iconst 0, 1)] (pc' := 157) (S' := ([(4, .int s0), (0, .ref 206), (1, .int a1), (2, .int a2), (3, .int a3)], [.int 0], rf_MM w m)) (by decide +kernel) rfl trivial ?_
                obtain rfl := Option.some.inj hg
                exact rf_iret C hE (by decide +kernel)
              · replace hg := (if_neg hc).symm.trans hg
                refine rf_seg C [(.iconst 1, 1)] (pc' := 153) (S' := ([(4, .int s0), (0, .ref 206), (1, .int a1), (2, .int a2), (3, .int a3)], [.int 1], rf_MM w m)) (by decide +kernel) rfl trivial ?_
                refine rf_goto C 4 157 (by decide +kernel) ?_
                obtain rfl := Option.some.inj hg
                exact rf_iret C hE (by decide +kernel)
            · replace hg := (if_neg ht5).symm.trans hg
              by_cases ht6 : a2 = 6
              · replace hg := (if_pos ht6).symm.trans hg
                refine rf_tabc C ht6 158 (by decide +kernel) ?_
                refine rf_seg C [(.iload 4, 2)] (pc' := 160) (S' := ([(4, .int s0), (0, .ref 206), (1, .int a1), (2, .int a2), (3, .int a3)], [.int s0], rf_MM w m)) (by decide +kernel) rfl trivial ?_
                obtain rfl := Option.some.inj hg
                exact rf_iret C hE (by decide +kernel)
              · replace hg := (if_neg ht6).symm.trans hg
                by_cases ht7 : a2 = 7
                · replace hg := (if_pos ht7).symm.trans hg
                  refine rf_tabc C ht7 161 (by decide +kernel) ?_
                  refine rf_seg C [(.iload 3, 1)] (pc' := 162) (S' := ([(4, .int s0), (0, .ref 206), (1, .int a1), (2, .int a2), (3, .int a3)], [.int a3], rf_MM w m)) (by decide +kernel) rfl trivial ?_
                  refine rf_if_eq C 23 185 (by decide +kernel) (fun hc => ?_) (fun hc => ?_)
                  · replace hg := (if_pos hc).symm.trans hg
                    refine rf_seg C [(.iconst 0, 1)] (pc' := 186) (S' := ([(4, .int s0), (0, .ref 206), (1, .int a1), (2, .int a2), (3, .int a3)], [.int 0], rf_MM w m)) (by decide +kernel) rfl trivial ?_
                    obtain rfl := Option.some.inj hg
                    exact rf_iret C hE (by decide +kernel)
                  · replace hg := (if_neg hc).symm.trans hg
                    obtain ⟨q6, hg⟩ := rf_g_some hg
                    refine rf_seg C [(.aload 0, 1), (.invokeinterface 14 20, 3), (.iload 1, 1), (.baload, 1)] (pc' := 171) (S' := ([(4, .int s0), (0, .ref 206), (1, .int a1), (2, .int a2), (3, .int a3)], [.int (m.1 216 (Int32.toNatClampNeg a1))], rf_MM w m)) (by decide +kernel) rfl (rf_in_of q6) ?_
                    refine rf_if_ne C 14 185 (by decide +kernel) (fun hc => ?_) (fun hc => ?_)
                    · replace hg := (if_neg hc).symm.trans hg
                      refine rf_seg C [(.iconst 0, 1)] (pc' := 186) (S' := ([(4, .int s0), (0, .ref 206), (1, .int a1), (2, .int a2), (3, .int a3)], [.int 0], rf_MM w m)) (by decide +kernel) rfl trivial ?_
                      obtain rfl := Option.some.inj hg
                      exact rf_iret C hE (by decide +kernel)
                    · replace hg := (if_pos hc).symm.trans hg
                      refine rf_seg C [(.iload 4, 2), (.iconst (-2), 2)] (pc' := 178) (S' := ([(4, .int s0), (0, .ref 206), (1, .int a1), (2, .int a2), (3, .int a3)], [.int ((-2)), .int s0], rf_MM w m)) (by decide +kernel) rfl trivial ?_
                      refine rf_icmp_ne C 7 185 (by decide +kernel) (fun hc => ?_) (fun hc => ?_)
                      · replace hg := (if_neg hc).symm.trans hg
                        refine rf_seg C [(.iconst 0, 1)] (pc' := 186) (S' := ([(4, .int s0), (0, .ref 206), (1, .int a1), (2, .int a2), (3, .int a3)], [.int 0], rf_MM w m)) (by decide +kernel) rfl trivial ?_
                        obtain rfl := Option.some.inj hg
                        exact rf_iret C hE (by decide +kernel)
                      · replace hg := (if_pos hc).symm.trans hg
                        refine rf_seg C [(.iconst 1, 1)] (pc' := 182) (S' := ([(4, .int s0), (0, .ref 206), (1, .int a1), (2, .int a2), (3, .int a3)], [.int 1], rf_MM w m)) (by decide +kernel) rfl trivial ?_
                        refine rf_goto C 4 186 (by decide +kernel) ?_
                        obtain rfl := Option.some.inj hg
                        exact rf_iret C hE (by decide +kernel)
                · replace hg := (if_neg ht7).symm.trans hg
                  by_cases ht8 : a2 = 8
                  · replace hg := (if_pos ht8).symm.trans hg
                    refine rf_tabc C ht8 187 (by decide +kernel) ?_
                    refine rf_seg C [(.iload 3, 1)] (pc' := 188) (S' := ([(4, .int s0), (0, .ref 206), (1, .int a1), (2, .int a2), (3, .int a3)], [.int a3], rf_MM w m)) (by decide +kernel) rfl trivial ?_
                    refine rf_if_eq C 20 208 (by decide +kernel) (fun hc => ?_) (fun hc => ?_)
                    · replace hg := (if_pos hc).symm.trans hg
                      refine rf_seg C [(.iconst (-2), 2)] (pc' := 210) (S' := ([(4, .int s0), (0, .ref 206), (1, .int a1), (2, .int a2), (3, .int a3)], [.int ((-2))], rf_MM w m)) (by decide +kernel) rfl trivial ?_
                      obtain rfl := Option.some.inj hg
                      exact rf_iret C hE (by decide +kernel)
                    · replace hg := (if_neg hc).symm.trans hg
                      obtain ⟨q7, hg⟩ := rf_g_some hg
                      refine rf_seg C [(.aload 0, 1), (.invokeinterface 14 25, 3), (.iload 1, 1), (.iaload, 1), (.aload 0, 1), (.invokeinterface 14 35, 3), (.isub, 1)] (pc' := 202) (S' := ([(4, .int s0), (0, .ref 206), (1, .int a1), (2, .int a2), (3, .int a3)], [.int ((m.1 221 (Int32.toNatClampNeg a1)) - (m.1 206 35))], rf_MM w m)) (by decide +kernel) rfl (rf_in_of q7) ?_
                      obtain ⟨y8, m8, hc8, hg⟩ := rf_b_some hg
                      refine rf_calls C rf_fit0 j_abs (As := [.int ((m.1 221 (Int32.toNatClampNeg a1)) - (m.1 206 35))]) (rest := []) mw_abs (c_abs hc8) (by decide) lk_14_381 rfl rfl (Nat.le_of_ble_eq_true rfl) (by decide +kernel) ?_
                      show rf_V 5 (rf_sh w) K 0 0 205 ([(4, .int s0), (0, .ref 206), (1, .int a1), (2, .int a2), (3, .int a3)], [.int y8], rf_MM w m8)
                      refine rf_goto C 5 210 (by decide +kernel) ?_
                      obtain rfl := Option.some.inj hg
                      exact rf_iret C hE (by decide +kernel)
                  · replace hg := (if_neg ht8).symm.trans hg
                    refine rf_tabd C 0 8 211 (by decide +kernel) (by have t0 : (a2).toInt ≠ 0 := rf_ti ht0; have t1 : (a2).toInt ≠ 1 := rf_ti ht1; have t2 : (a2).toInt ≠ 2 := rf_ti ht2; have t3 : (a2).toInt ≠ 3 := rf_ti ht3; have t4 : (a2).toInt ≠ 4 := rf_ti ht4; have t5 : (a2).toInt ≠ 5 := rf_ti ht5; have t6 : (a2).toInt ≠ 6 := rf_ti ht6; have t7 : (a2).toInt ≠ 7 := rf_ti ht7; have t8 : (a2).toInt ≠ 8 := rf_ti ht8; omega) ?_
                    refine rf_seg C [(.iconst (-1), 1)] (pc' := 212) (S' := ([(4, .int s0), (0, .ref 206), (1, .int a1), (2, .int a2), (3, .int a3)], [.int ((-1))], rf_MM w m)) (by decide +kernel) rfl trivial ?_
                    obtain rfl := Option.some.inj hg
                    exact rf_iret C hE (by decide +kernel)
theorem s_X14_reading_41 {w : rf_w} {K : rf_K} {r : Int32 × rf_m} (C : rf_Ctx 14 cX14_reading 5 8 (rf_sh w) K) (hE : rf_End (some .int) K (rf_sh w) 0 0 (some (.int r.1)) (rf_MM w r.2)) (a1 : Int32) (a2 : Int32) (s0 : Int32) (m : rf_m) (hg : g_X14_reading_41 w a1 a2 s0 m = some r) : rf_V 5 (rf_sh w) K 0 0 41 ([(0, .ref 206), (1, .int a1), (2, .int a2)], [.int s0], rf_MM w m) := by
  unfold g_X14_reading_41 at hg
  refine rf_seg C [(.istore 3, 1), (.iload 3, 1)] (pc' := 43) (S' := ([(3, .int s0), (0, .ref 206), (1, .int a1), (2, .int a2)], [.int s0], rf_MM w m)) (by decide +kernel) rfl trivial ?_
  refine rf_if_eq C 11 54 (by decide +kernel) (fun hc => ?_) (fun hc => ?_)
  · replace hg := (if_pos hc).symm.trans hg
    refine rf_seg C [(.iconst (-2), 2)] (pc' := 56) (S' := ([(3, .int s0), (0, .ref 206), (1, .int a1), (2, .int a2)], [.int ((-2))], rf_MM w m)) (by decide +kernel) rfl trivial ?_
    refine rf_few [1, 2, 3, 0] rfl ?_
    exact s_X14_reading_56 C hE a1 a2 s0 ((-2)) m hg
  · replace hg := (if_neg hc).symm.trans hg
    refine rf_seg C [(.aload 0, 1), (.iload 1, 1)] (pc' := 48) (S' := ([(3, .int s0), (0, .ref 206), (1, .int a1), (2, .int a2)], [.int a1, .ref 206], rf_MM w m)) (by decide +kernel) rfl trivial ?_
    obtain ⟨y0, m0, hc0, hg⟩ := rf_b_some hg
    refine rf_callv C rf_fit0 j_X14_strikerOf (ci := 14) (As := [.int a1]) (rest := []) mw_X14_strikerOf (c_X14_strikerOf hc0) (by decide) rfl (by decide) lk_14_437 rfl rfl (Nat.le_of_ble_eq_true rfl) (by decide +kernel) ?_
    show rf_V 5 (rf_sh w) K 0 0 51 ([(3, .int s0), (0, .ref 206), (1, .int a1), (2, .int a2)], [.int y0], rf_MM w m0)
    refine rf_goto C 5 56 (by decide +kernel) ?_
    refine rf_few [1, 2, 3, 0] rfl ?_
    exact s_X14_reading_56 C hE a1 a2 s0 y0 m0 hg
theorem c_X14_reading {w : rf_w} {m : rf_m} {a1 : Int32} {a2 : Int32} {r : Int32 × rf_m} (hg : g_X14_reading w m a1 a2 = some r) : rf_Con j_X14_reading 8 (rf_sh w) [.ref 206, .int a1, .int a2] (rf_MM w m) (some (.int r.1)) (rf_MM w r.2) := by
  refine rf_con j_X14_reading 8 ⟨by decide +kernel, rfl, Nat.le_of_ble_eq_true rfl⟩ (fun K C hE => ?_)
  unfold g_X14_reading at hg
  show rf_V 5 (rf_sh w) K 0 0 0 ([(0, .ref 206), (1, .int a1), (2, .int a2)], [], rf_MM w m)
  refine rf_seg C [(.aload 0, 1), (.iconst 0, 1), (.multianewarray 14 0, 3), (.aload 0, 1), (.iload 1, 1)] (pc' := 7) (S' := ([(0, .ref 206), (1, .int a1), (2, .int a2)], [.int a1, .ref 206], rf_MM w (rf_i m 206 0 0))) (by decide +kernel) rfl trivial ?_
  obtain ⟨y0, m0, hc0, hg⟩ := rf_b_some hg
  refine rf_callv C rf_fit0 j_X14_isReading (ci := 14) (As := [.int a1]) (rest := []) mw_X14_isReading (c_X14_isReading hc0) (by decide) rfl (by decide) lk_14_418 rfl rfl (Nat.le_of_ble_eq_true rfl) (by decide +kernel) ?_
  show rf_V 5 (rf_sh w) K 0 0 10 ([(0, .ref 206), (1, .int a1), (2, .int a2)], [.int y0], rf_MM w m0)
  refine rf_if_ne C 5 15 (by decide +kernel) (fun hc => ?_) (fun hc => ?_)
  · replace hg := (if_neg hc).symm.trans hg
    obtain ⟨q1, hg⟩ := rf_g_some hg
    refine rf_seg C [(.aload 0, 1), (.aload 0, 1), (.invokeinterface 14 24, 3), (.iload 1, 1), (.iaload, 1)] (pc' := 22) (S' := ([(0, .ref 206), (1, .int a1), (2, .int a2)], [.int (m0.1 220 (Int32.toNatClampNeg a1)), .ref 206], rf_MM w m0)) (by decide +kernel) rfl (rf_in_of q1) ?_
    obtain ⟨m2, hc2, hg⟩ := rf_bv_some hg
    refine rf_callv C rf_fit0 j_X14_now (ci := 14) (As := [.int (m0.1 220 (Int32.toNatClampNeg a1))]) (rest := []) mw_X14_now (c_X14_now hc2) (by decide) rfl (by decide) lk_14_469 rfl rfl (Nat.le_of_ble_eq_true rfl) (by decide +kernel) ?_
    show rf_V 5 (rf_sh w) K 0 0 25 ([(0, .ref 206), (1, .int a1), (2, .int a2)], [], rf_MM w m2)
    obtain ⟨q3, hg⟩ := rf_g_some hg
    refine rf_seg C [(.aload 0, 1), (.invokeinterface 14 25, 3), (.iload 1, 1), (.iaload, 1), (.iconst (-2), 2)] (pc' := 33) (S' := ([(0, .ref 206), (1, .int a1), (2, .int a2)], [.int ((-2)), .int (m2.1 221 (Int32.toNatClampNeg a1))], rf_MM w m2)) (by decide +kernel) rfl (rf_in_of q3) ?_
    refine rf_icmp_eq C 7 40 (by decide +kernel) (fun hc => ?_) (fun hc => ?_)
    · replace hg := (if_pos hc).symm.trans hg
      refine rf_seg C [(.iconst 0, 1)] (pc' := 41) (S' := ([(0, .ref 206), (1, .int a1), (2, .int a2)], [.int 0], rf_MM w m2)) (by decide +kernel) rfl trivial ?_
      refine rf_few [0, 1, 2] rfl ?_
      exact s_X14_reading_41 C hE a1 a2 0 m2 hg
    · replace hg := (if_neg hc).symm.trans hg
      refine rf_seg C [(.iconst 1, 1)] (pc' := 37) (S' := ([(0, .ref 206), (1, .int a1), (2, .int a2)], [.int 1], rf_MM w m2)) (by decide +kernel) rfl trivial ?_
      refine rf_goto C 4 41 (by decide +kernel) ?_
      refine rf_few [0, 1, 2] rfl ?_
      exact s_X14_reading_41 C hE a1 a2 1 m2 hg
  · replace hg := (if_pos hc).symm.trans hg
    refine rf_seg C [(.iconst (-1), 1)] (pc' := 14) (S' := ([(0, .ref 206), (1, .int a1), (2, .int a2)], [.int ((-1))], rf_MM w m0)) (by decide +kernel) rfl trivial ?_
    obtain rfl := Option.some.inj hg
    exact rf_iret C hE (by decide +kernel)
-- X14_namesOf
abbrev j_X14_namesOf : rf_J := (14, yX14_namesOf, cX14_namesOf, 3, none)
theorem mw_X14_namesOf : rf_mv j_X14_namesOf (rf_R 14) 1 := ⟨⟨rf_mem 33 (by decide +kernel), rf_mem 33 (by decide +kernel), rf_mem 0 (by decide +kernel), rf_mem 33 (by decide +kernel)⟩, by decide +kernel, by decide⟩
def g_X14_namesOf_56 (w : rf_w) (a1 : Int32) (s1 : Int32) (s2 : Int32) (m : rf_m) : Option (rf_m) := rf_g (rf_in s1 7) (rf_g (rf_in a1 80) (some (rf_i (rf_i (rf_i m 228 (Int32.toNatClampNeg s1) s2) 228 (Int32.toNatClampNeg 5) ((rf_i m 228 (Int32.toNatClampNeg s1) s2).1 206 34)) 228 (Int32.toNatClampNeg 6) ((rf_i (rf_i m 228 (Int32.toNatClampNeg s1) s2) 228 (Int32.toNatClampNeg 5) ((rf_i m 228 (Int32.toNatClampNeg s1) s2).1 206 34)).1 217 (Int32.toNatClampNeg a1)))))
def g_X14_namesOf_2_b (w : rf_w) (rec2 : Int32 → Int32 → rf_m → Option (rf_m)) (a1 : Int32) (a2 : Int32) (m : rf_m) : Option (rf_m) := (if 7 ≤ a2 then (if ((rf_i m 228 (Int32.toNatClampNeg 3) (m.1 206 33)).1 206 34) = 0 then g_X14_namesOf_56 w a1 4 0 (rf_i m 228 (Int32.toNatClampNeg 3) (m.1 206 33)) else g_X14_namesOf_56 w a1 4 (((rf_i m 228 (Int32.toNatClampNeg 3) (m.1 206 33)).1 206 38) - ((rf_i m 228 (Int32.toNatClampNeg 3) (m.1 206 33)).1 206 37)) (rf_i m 228 (Int32.toNatClampNeg 3) (m.1 206 33))) else rf_g (rf_in a2 7) (rec2 a1 (a2 + 1) (rf_i m 228 (Int32.toNatClampNeg a2) 0)))
def g_X14_namesOf_2 (w : rf_w) : Nat → Int32 → Int32 → rf_m → Option (rf_m)
  | 0, _, _, _ => none
  | n + 1, a1, a2, m => g_X14_namesOf_2_b w (g_X14_namesOf_2 w n) a1 a2 m
def g_X14_namesOf (w : rf_w) (m : rf_m) (a1 : Int32) : Option (rf_m) := g_X14_namesOf_2 w rf_fuel a1 0 m
theorem s_X14_namesOf_56 {w : rf_w} {K : rf_K} {r : rf_m} (C : rf_Ctx 14 cX14_namesOf 3 1 (rf_sh w) K) (hE : rf_End none K (rf_sh w) 0 0 none (rf_MM w r)) (a1 : Int32) (s1 : Int32) (s2 : Int32) (m : rf_m) (hg : g_X14_namesOf_56 w a1 s1 s2 m = some r) : rf_V 3 (rf_sh w) K 0 0 56 ([(0, .ref 206), (1, .int a1)], [.int s2, .int s1, .ref 228], rf_MM w m) := by
  unfold g_X14_namesOf_56 at hg
  obtain ⟨q0, hg⟩ := rf_g_some hg
  obtain ⟨q1, hg⟩ := rf_g_some hg
  refine rf_seg C [(.iastore, 1), (.aload 0, 1), (.invokeinterface 14 32, 3), (.iconst 5, 1), (.aload 0, 1), (.invokeinterface 14 34, 3), (.iastore, 1), (.aload 0, 1), (.invokeinterface 14 32, 3), (.iconst 6, 2), (.aload 0, 1), (.invokeinterface 14 21, 3), (.iload 1, 1), (.iaload, 1), (.iastore, 1)] (pc' := 80) (S' := ([(0, .ref 206), (1, .int a1)], [], rf_MM w (rf_i (rf_i (rf_i m 228 (Int32.toNatClampNeg s1) s2) 228 (Int32.toNatClampNeg 5) ((rf_i m 228 (Int32.toNatClampNeg s1) s2).1 206 34)) 228 (Int32.toNatClampNeg 6) ((rf_i (rf_i m 228 (Int32.toNatClampNeg s1) s2) 228 (Int32.toNatClampNeg 5) ((rf_i m 228 (Int32.toNatClampNeg s1) s2).1 206 34)).1 217 (Int32.toNatClampNeg a1))))) (by decide +kernel) rfl (by exact ⟨(rf_in_of q0), (rf_in_of (by decide)), (rf_in_of q1), (rf_in_of (by decide))⟩) ?_
  obtain rfl := Option.some.inj hg
  exact rf_vret C hE (by decide +kernel)
theorem s_X14_namesOf_2_b {w : rf_w} {K : rf_K} {r : rf_m} (C : rf_Ctx 14 cX14_namesOf 3 1 (rf_sh w) K) (hE : rf_End none K (rf_sh w) 0 0 none (rf_MM w r)) {rec2 : Int32 → Int32 → rf_m → Option (rf_m)} (hr2 : ∀ (a1 : Int32) (a2 : Int32) (m : rf_m), rec2 a1 a2 m = some r → rf_V 3 (rf_sh w) K 0 0 2 ([(0, .ref 206), (1, .int a1), (2, .int a2)], [], rf_MM w m)) (a1 : Int32) (a2 : Int32) (m : rf_m) (hg : g_X14_namesOf_2_b w rec2 a1 a2 m = some r) : rf_V 3 (rf_sh w) K 0 0 2 ([(0, .ref 206), (1, .int a1), (2, .int a2)], [], rf_MM w m) := by
  unfold g_X14_namesOf_2_b at hg
  refine rf_seg C [(.iload 2, 1), (.iconst 7, 2)] (pc' := 5) (S' := ([(0, .ref 206), (1, .int a1), (2, .int a2)], [.int 7, .int a2], rf_MM w m)) (by decide +kernel) rfl trivial ?_
  refine rf_icmp_ge C 16 21 (by decide +kernel) (fun hc => ?_) (fun hc => ?_)
  · replace hg := (if_pos hc).symm.trans hg
    refine rf_seg C [(.aload 0, 1), (.invokeinterface 14 32, 3), (.iconst 3, 1), (.aload 0, 1), (.invokeinterface 14 33, 3), (.iastore, 1), (.aload 0, 1), (.invokeinterface 14 32, 3), (.iconst 4, 1), (.aload 0, 1), (.invokeinterface 14 34, 3)] (pc' := 40) (S' := ([(0, .ref 206), (1, .int a1), (2, .int a2)], [.int ((rf_i m 228 (Int32.toNatClampNeg 3) (m.1 206 33)).1 206 34), .int 4, .ref 228], rf_MM w (rf_i m 228 (Int32.toNatClampNeg 3) (m.1 206 33)))) (by decide +kernel) rfl (rf_in_of (by decide)) ?_
    refine rf_if_ne C 7 47 (by decide +kernel) (fun hc => ?_) (fun hc => ?_)
    · replace hg := (if_neg hc).symm.trans hg
      refine rf_seg C [(.aload 0, 1), (.invokeinterface 14 38, 3), (.aload 0, 1), (.invokeinterface 14 37, 3), (.isub, 1)] (pc' := 56) (S' := ([(0, .ref 206), (1, .int a1), (2, .int a2)], [.int (((rf_i m 228 (Int32.toNatClampNeg 3) (m.1 206 33)).1 206 38) - ((rf_i m 228 (Int32.toNatClampNeg 3) (m.1 206 33)).1 206 37)), .int 4, .ref 228], rf_MM w (rf_i m 228 (Int32.toNatClampNeg 3) (m.1 206 33)))) (by decide +kernel) rfl trivial ?_
      refine rf_few [0, 1] rfl ?_
      exact s_X14_namesOf_56 C hE a1 4 (((rf_i m 228 (Int32.toNatClampNeg 3) (m.1 206 33)).1 206 38) - ((rf_i m 228 (Int32.toNatClampNeg 3) (m.1 206 33)).1 206 37)) (rf_i m 228 (Int32.toNatClampNeg 3) (m.1 206 33)) hg
    · replace hg := (if_pos hc).symm.trans hg
      refine rf_seg C [(.iconst 0, 1)] (pc' := 44) (S' := ([(0, .ref 206), (1, .int a1), (2, .int a2)], [.int 0, .int 4, .ref 228], rf_MM w (rf_i m 228 (Int32.toNatClampNeg 3) (m.1 206 33)))) (by decide +kernel) rfl trivial ?_
      refine rf_goto C 12 56 (by decide +kernel) ?_
      refine rf_few [0, 1] rfl ?_
      exact s_X14_namesOf_56 C hE a1 4 0 (rf_i m 228 (Int32.toNatClampNeg 3) (m.1 206 33)) hg
  · replace hg := (if_neg hc).symm.trans hg
    obtain ⟨q0, hg⟩ := rf_g_some hg
    refine rf_seg C [(.aload 0, 1), (.invokeinterface 14 32, 3), (.iload 2, 1), (.iconst 0, 1), (.iastore, 1), (.iinc 2 1, 3)] (pc' := 18) (S' := ([(2, .int (a2 + 1)), (0, .ref 206), (1, .int a1)], [], rf_MM w (rf_i m 228 (Int32.toNatClampNeg a2) 0))) (by decide +kernel) rfl (rf_in_of q0) ?_
    refine rf_goto C (-16) 2 (by decide +kernel) ?_
    refine rf_few [1, 2, 0] rfl ?_
    exact hr2 a1 (a2 + 1) (rf_i m 228 (Int32.toNatClampNeg a2) 0) hg
theorem s_X14_namesOf_2 {w : rf_w} {K : rf_K} {r : rf_m} (C : rf_Ctx 14 cX14_namesOf 3 1 (rf_sh w) K) (hE : rf_End none K (rf_sh w) 0 0 none (rf_MM w r)) (n : Nat) : ∀ (a1 : Int32) (a2 : Int32) (m : rf_m), g_X14_namesOf_2 w n a1 a2 m = some r → rf_V 3 (rf_sh w) K 0 0 2 ([(0, .ref 206), (1, .int a1), (2, .int a2)], [], rf_MM w m) := by
  induction n with
  | zero => intro a1 a2 m hg; cases hg
  | succ n ih => intro a1 a2 m hg; exact s_X14_namesOf_2_b C hE ih a1 a2 m hg
theorem c_X14_namesOf {w : rf_w} {m : rf_m} {a1 : Int32} {r : rf_m} (hg : g_X14_namesOf w m a1 = some r) : rf_Con j_X14_namesOf 1 (rf_sh w) [.ref 206, .int a1] (rf_MM w m) none (rf_MM w r) := by
  refine rf_con j_X14_namesOf 1 ⟨by decide +kernel, rfl, Nat.le_of_ble_eq_true rfl⟩ (fun K C hE => ?_)
  unfold g_X14_namesOf at hg
  show rf_V 3 (rf_sh w) K 0 0 0 ([(0, .ref 206), (1, .int a1)], [], rf_MM w m)
  refine rf_seg C [(.iconst 0, 1), (.istore 2, 1)] (pc' := 2) (S' := ([(2, .int 0), (0, .ref 206), (1, .int a1)], [], rf_MM w m)) (by decide +kernel) rfl trivial ?_
  refine rf_few [1, 2, 0] rfl ?_
  exact s_X14_namesOf_2 C hE rf_fuel a1 0 m hg
-- X14_sumOf
abbrev j_X14_sumOf : rf_J := (14, yX14_sumOf, cX14_sumOf, 2, (some .int))
theorem mw_X14_sumOf : rf_mv j_X14_sumOf (rf_R 14) 1 := ⟨⟨rf_mem 33 (by decide +kernel), rf_mem 33 (by decide +kernel), rf_mem 0 (by decide +kernel), rf_mem 33 (by decide +kernel)⟩, by decide +kernel, by decide⟩
def g_X14_sumOf (w : rf_w) (m : rf_m) (a1 : Nat) : Option (Int32 × rf_m) := rf_g (rf_isO w a1 12) (rf_g (rf_isR w a1 5 (a1 + 1)) (rf_g (rf_isA w (a1 + 1) .int 300) (rf_g (rf_isR w a1 6 (a1 + 2)) (rf_g (rf_isA w (a1 + 2) .int 300) (rf_b (g_X14_valueOf w m a1 0 (m.1 a1 4)) fun y5 m5 => some (y5, m5))))))
theorem c_X14_sumOf {w : rf_w} {m : rf_m} {a1 : Nat} {r : Int32 × rf_m} (hg : g_X14_sumOf w m a1 = some r) : rf_Con j_X14_sumOf 4 (rf_sh w) [.ref 206, .ref a1] (rf_MM w m) (some (.int r.1)) (rf_MM w r.2) := by
  refine rf_con j_X14_sumOf 4 ⟨by decide +kernel, rfl, Nat.le_of_ble_eq_true rfl⟩ (fun K C hE => ?_)
  unfold g_X14_sumOf at hg
  show rf_V 2 (rf_sh w) K 0 0 0 ([(0, .ref 206), (1, .ref a1)], [], rf_MM w m)
  obtain ⟨q0, hg⟩ := rf_g_some hg
  obtain ⟨q1, hg⟩ := rf_g_some hg
  obtain ⟨q2, hg⟩ := rf_g_some hg
  obtain ⟨q3, hg⟩ := rf_g_some hg
  obtain ⟨q4, hg⟩ := rf_g_some hg
  refine rf_seg C [(.aload 0, 1), (.aload 1, 1), (.iconst 0, 1), (.aload 1, 1)] (pc' := 4) (S' := ([(0, .ref 206), (1, .ref a1)], [.ref a1, .int 0, .ref a1, .ref 206], rf_MM w m)) (by decide +kernel) rfl trivial ?_
  refine rf_d_get C 12 4 (rf_isO_of q0) (by decide +kernel) ?_
  show rf_V 2 (rf_sh w) K 0 0 7 ([(0, .ref 206), (1, .ref a1)], [.int (m.1 a1 4), .int 0, .ref a1, .ref 206], rf_MM w m)
  obtain ⟨y5, m5, hc5, hg⟩ := rf_b_some hg
  refine rf_callv C rf_fit0 j_X14_valueOf (ci := 14) (As := [.ref a1, .int 0, .int (m.1 a1 4)]) (rest := []) mw_X14_valueOf (c_X14_valueOf hc5) (by decide) rfl (by decide) lk_14_656 rfl rfl (Nat.le_of_ble_eq_true rfl) (by decide +kernel) ?_
  show rf_V 2 (rf_sh w) K 0 0 10 ([(0, .ref 206), (1, .ref a1)], [.int y5], rf_MM w m5)
  obtain rfl := Option.some.inj hg
  exact rf_iret C hE (by decide +kernel)
-- X14_weightOf
abbrev j_X14_weightOf : rf_J := (14, yX14_weightOf, cX14_weightOf, 3, (some .int))
theorem mw_X14_weightOf : rf_mv j_X14_weightOf (rf_R 14) 1 := ⟨⟨rf_mem 32 (by decide +kernel), rf_mem 33 (by decide +kernel), rf_mem 0 (by decide +kernel), rf_mem 33 (by decide +kernel)⟩, by decide +kernel, by decide⟩
def g_X14_weightOf_78 (w : rf_w) (rec12 : Int32 → rf_m → Option (Int32 × rf_m)) (a2 : Int32) (m : rf_m) : Option (Int32 × rf_m) := rec12 (a2 + 1) m
def g_X14_weightOf_12_b (w : rf_w) (rec12 : Int32 → rf_m → Option (Int32 × rf_m)) (a2 : Int32) (m : rf_m) : Option (Int32 × rf_m) := (if (m.1 206 39) ≤ a2 then some (1, m) else rf_g (rf_in a2 24) (rf_o (rf_Rt w 229 (Int32.toNatClampNeg a2)) fun k1 => rf_g (rf_isO w k1 12) (rf_g (rf_isR w k1 5 (k1 + 1)) (rf_g (rf_isA w (k1 + 1) .int 300) (rf_g (rf_isR w k1 6 (k1 + 2)) (rf_g (rf_isA w (k1 + 2) .int 300) ((if (m.1 k1 0) = 1 then rf_b (g_X14_isInForce w m a2 (m.1 206 5)) fun y7 m7 => (if y7 = 0 then g_X14_weightOf_78 w rec12 a2 m7 else rf_g (rf_in a2 24) (rf_o (rf_Rt w 229 (Int32.toNatClampNeg a2)) fun k9 => rf_g (rf_isO w k9 12) (rf_g (rf_isR w k9 5 (k9 + 1)) (rf_g (rf_isA w (k9 + 1) .int 300) (rf_g (rf_isR w k9 6 (k9 + 2)) (rf_g (rf_isA w (k9 + 2) .int 300) (rf_b (g_X14_testOf w m7 k9) fun y15 m15 => (if y15 = 0 then g_X14_weightOf_78 w rec12 a2 m15 else rf_g (rf_in a2 24) (rf_o (rf_Rt w 229 (Int32.toNatClampNeg a2)) fun k17 => rf_g (rf_isO w k17 12) (rf_g (rf_isR w k17 5 (k17 + 1)) (rf_g (rf_isA w (k17 + 1) .int 300) (rf_g (rf_isR w k17 6 (k17 + 2)) (rf_g (rf_isA w (k17 + 2) .int 300) (rf_b (g_X14_sumOf w m15 k17) fun y23 m23 => rf_b (g_min w m23 9 y23) fun y24 m24 => rf_b (g_max w m24 1 y24) fun y25 m25 => some (y25, m25))))))))))))))) else g_X14_weightOf_78 w rec12 a2 m))))))))
def g_X14_weightOf_12 (w : rf_w) : Nat → Int32 → rf_m → Option (Int32 × rf_m)
  | 0, _, _ => none
  | n + 1, a2, m => g_X14_weightOf_12_b w (g_X14_weightOf_12 w n) a2 m
def g_X14_weightOf (w : rf_w) (m : rf_m) (a1 : Int32) : Option (Int32 × rf_m) := rf_bv (g_X14_now w m a1) fun m0 => rf_bv (g_X14_namesOf w m0 a1) fun m1 => g_X14_weightOf_12 w rf_fuel 0 m1
theorem s_X14_weightOf_78 {w : rf_w} {K : rf_K} {r : Int32 × rf_m} (C : rf_Ctx 14 cX14_weightOf 3 8 (rf_sh w) K) (hE : rf_End (some .int) K (rf_sh w) 0 0 (some (.int r.1)) (rf_MM w r.2)) {rec12 : Int32 → rf_m → Option (Int32 × rf_m)} (hr12 : ∀ (a2 : Int32) (m : rf_m), rec12 a2 m = some r → rf_V 3 (rf_sh w) K 0 0 12 ([(0, .ref 206), (2, .int a2)], [], rf_MM w m)) (a2 : Int32) (m : rf_m) (hg : g_X14_weightOf_78 w rec12 a2 m = some r) : rf_V 3 (rf_sh w) K 0 0 78 ([(0, .ref 206), (2, .int a2)], [], rf_MM w m) := by
  unfold g_X14_weightOf_78 at hg
  refine rf_seg C [(.iinc 2 1, 3)] (pc' := 81) (S' := ([(2, .int (a2 + 1)), (0, .ref 206)], [], rf_MM w m)) (by decide +kernel) rfl trivial ?_
  refine rf_goto C (-69) 12 (by decide +kernel) ?_
  refine rf_few [1, 0] rfl ?_
  exact hr12 (a2 + 1) m hg
theorem s_X14_weightOf_12_b {w : rf_w} {K : rf_K} {r : Int32 × rf_m} (C : rf_Ctx 14 cX14_weightOf 3 8 (rf_sh w) K) (hE : rf_End (some .int) K (rf_sh w) 0 0 (some (.int r.1)) (rf_MM w r.2)) {rec12 : Int32 → rf_m → Option (Int32 × rf_m)} (hr12 : ∀ (a2 : Int32) (m : rf_m), rec12 a2 m = some r → rf_V 3 (rf_sh w) K 0 0 12 ([(0, .ref 206), (2, .int a2)], [], rf_MM w m)) (a2 : Int32) (m : rf_m) (hg : g_X14_weightOf_12_b w rec12 a2 m = some r) : rf_V 3 (rf_sh w) K 0 0 12 ([(0, .ref 206), (2, .int a2)], [], rf_MM w m) := by
  unfold g_X14_weightOf_12_b at hg
  refine rf_seg C [(.iload 2, 1), (.aload 0, 1), (.invokeinterface 14 39, 3)] (pc' := 17) (S' := ([(0, .ref 206), (2, .int a2)], [.int (m.1 206 39), .int a2], rf_MM w m)) (by decide +kernel) rfl trivial ?_
  refine rf_icmp_ge C 67 84 (by decide +kernel) (fun hc => ?_) (fun hc => ?_)
  · replace hg := (if_pos hc).symm.trans hg
    refine rf_seg C [(.iconst 1, 1)] (pc' := 85) (S' := ([(0, .ref 206), (2, .int a2)], [.int 1], rf_MM w m)) (by decide +kernel) rfl trivial ?_
    obtain rfl := Option.some.inj hg
    exact rf_iret C hE (by decide +kernel)
  · replace hg := (if_neg hc).symm.trans hg
    refine rf_seg C [(.aload 0, 1), (.invokeinterface 14 40, 3), (.iload 2, 1)] (pc' := 25) (S' := ([(0, .ref 206), (2, .int a2)], [.int a2, .ref 229], rf_MM w m)) (by decide +kernel) rfl trivial ?_
    obtain ⟨q0, hg⟩ := rf_g_some hg
    obtain ⟨k1, hk1, hg⟩ := rf_o_some hg
    refine rf_d_aaload C (n := 24) (q := k1) rfl (rf_in_of q0) hk1 (by decide +kernel) ?_
    obtain ⟨q2, hg⟩ := rf_g_some hg
    obtain ⟨q3, hg⟩ := rf_g_some hg
    obtain ⟨q4, hg⟩ := rf_g_some hg
    obtain ⟨q5, hg⟩ := rf_g_some hg
    obtain ⟨q6, hg⟩ := rf_g_some hg
    show rf_V 3 (rf_sh w) K 0 0 26 ([(0, .ref 206), (2, .int a2)], [.ref k1], rf_MM w m)
    refine rf_d_get C 12 0 (rf_isO_of q2) (by decide +kernel) ?_
    show rf_V 3 (rf_sh w) K 0 0 29 ([(0, .ref 206), (2, .int a2)], [.int (m.1 k1 0)], rf_MM w m)
    refine rf_seg C [(.iconst 1, 1)] (pc' := 30) (S' := ([(0, .ref 206), (2, .int a2)], [.int 1, .int (m.1 k1 0)], rf_MM w m)) (by decide +kernel) rfl trivial ?_
    refine rf_icmp_ne C 48 78 (by decide +kernel) (fun hc => ?_) (fun hc => ?_)
    · replace hg := (if_neg hc).symm.trans hg
      refine rf_few [0, 1] rfl ?_
      exact s_X14_weightOf_78 C hE hr12 a2 m hg
    · replace hg := (if_pos hc).symm.trans hg
      refine rf_seg C [(.aload 0, 1), (.iload 2, 1), (.aload 0, 1), (.invokeinterface 14 5, 3)] (pc' := 39) (S' := ([(0, .ref 206), (2, .int a2)], [.int (m.1 206 5), .int a2, .ref 206], rf_MM w m)) (by decide +kernel) rfl trivial ?_
      obtain ⟨y7, m7, hc7, hg⟩ := rf_b_some hg
      refine rf_callv C rf_fit0 j_X14_isInForce (ci := 14) (As := [.int a2, .int (m.1 206 5)]) (rest := []) mw_X14_isInForce (c_X14_isInForce hc7) (by decide) rfl (by decide) lk_14_458 rfl rfl (Nat.le_of_ble_eq_true rfl) (by decide +kernel) ?_
      show rf_V 3 (rf_sh w) K 0 0 42 ([(0, .ref 206), (2, .int a2)], [.int y7], rf_MM w m7)
      refine rf_if_eq C 36 78 (by decide +kernel) (fun hc => ?_) (fun hc => ?_)
      · replace hg := (if_pos hc).symm.trans hg
        refine rf_few [0, 1] rfl ?_
        exact s_X14_weightOf_78 C hE hr12 a2 m7 hg
      · replace hg := (if_neg hc).symm.trans hg
        refine rf_seg C [(.aload 0, 1), (.aload 0, 1), (.invokeinterface 14 40, 3), (.iload 2, 1)] (pc' := 51) (S' := ([(0, .ref 206), (2, .int a2)], [.int a2, .ref 229, .ref 206], rf_MM w m7)) (by decide +kernel) rfl trivial ?_
        obtain ⟨q8, hg⟩ := rf_g_some hg
        obtain ⟨k9, hk9, hg⟩ := rf_o_some hg
        refine rf_d_aaload C (n := 24) (q := k9) rfl (rf_in_of q8) hk9 (by decide +kernel) ?_
        obtain ⟨q10, hg⟩ := rf_g_some hg
        obtain ⟨q11, hg⟩ := rf_g_some hg
        obtain ⟨q12, hg⟩ := rf_g_some hg
        obtain ⟨q13, hg⟩ := rf_g_some hg
        obtain ⟨q14, hg⟩ := rf_g_some hg
        show rf_V 3 (rf_sh w) K 0 0 52 ([(0, .ref 206), (2, .int a2)], [.ref k9, .ref 206], rf_MM w m7)
        obtain ⟨y15, m15, hc15, hg⟩ := rf_b_some hg
        refine rf_callv C rf_fit0 j_X14_testOf (ci := 14) (As := [.ref k9]) (rest := []) mw_X14_testOf (c_X14_testOf hc15) (by decide) rfl (by decide) lk_14_461 rfl rfl (Nat.le_of_ble_eq_true rfl) (by decide +kernel) ?_
        show rf_V 3 (rf_sh w) K 0 0 55 ([(0, .ref 206), (2, .int a2)], [.int y15], rf_MM w m15)
        refine rf_if_eq C 23 78 (by decide +kernel) (fun hc => ?_) (fun hc => ?_)
        · replace hg := (if_pos hc).symm.trans hg
          refine rf_few [0, 1] rfl ?_
          exact s_X14_weightOf_78 C hE hr12 a2 m15 hg
        · replace hg := (if_neg hc).symm.trans hg
          refine rf_seg C [(.iconst 1, 1), (.iconst 9, 2), (.aload 0, 1), (.aload 0, 1), (.invokeinterface 14 40, 3), (.iload 2, 1)] (pc' := 67) (S' := ([(0, .ref 206), (2, .int a2)], [.int a2, .ref 229, .ref 206, .int 9, .int 1], rf_MM w m15)) (by decide +kernel) rfl trivial ?_
          obtain ⟨q16, hg⟩ := rf_g_some hg
          obtain ⟨k17, hk17, hg⟩ := rf_o_some hg
          refine rf_d_aaload C (n := 24) (q := k17) rfl (rf_in_of q16) hk17 (by decide +kernel) ?_
          obtain ⟨q18, hg⟩ := rf_g_some hg
          obtain ⟨q19, hg⟩ := rf_g_some hg
          obtain ⟨q20, hg⟩ := rf_g_some hg
          obtain ⟨q21, hg⟩ := rf_g_some hg
          obtain ⟨q22, hg⟩ := rf_g_some hg
          show rf_V 3 (rf_sh w) K 0 0 68 ([(0, .ref 206), (2, .int a2)], [.ref k17, .ref 206, .int 9, .int 1], rf_MM w m15)
          obtain ⟨y23, m23, hc23, hg⟩ := rf_b_some hg
          refine rf_callv C rf_fit0 j_X14_sumOf (ci := 14) (As := [.ref k17]) (rest := [.int 9, .int 1]) mw_X14_sumOf (c_X14_sumOf hc23) (by decide) rfl (by decide) lk_14_476 rfl rfl (Nat.le_of_ble_eq_true rfl) (by decide +kernel) ?_
          show rf_V 3 (rf_sh w) K 0 0 71 ([(0, .ref 206), (2, .int a2)], [.int y23, .int 9, .int 1], rf_MM w m23)
          obtain ⟨y24, m24, hc24, hg⟩ := rf_b_some hg
          refine rf_calls C rf_fit0 j_min (As := [.int 9, .int y23]) (rest := [.int 1]) mw_min (c_min hc24) (by decide) lk_14_443 rfl rfl (Nat.le_of_ble_eq_true rfl) (by decide +kernel) ?_
          show rf_V 3 (rf_sh w) K 0 0 74 ([(0, .ref 206), (2, .int a2)], [.int y24, .int 1], rf_MM w m24)
          obtain ⟨y25, m25, hc25, hg⟩ := rf_b_some hg
          refine rf_calls C rf_fit0 j_max (As := [.int 1, .int y24]) (rest := []) mw_max (c_max hc25) (by decide) lk_14_375 rfl rfl (Nat.le_of_ble_eq_true rfl) (by decide +kernel) ?_
          show rf_V 3 (rf_sh w) K 0 0 77 ([(0, .ref 206), (2, .int a2)], [.int y25], rf_MM w m25)
          obtain rfl := Option.some.inj hg
          exact rf_iret C hE (by decide +kernel)
theorem s_X14_weightOf_12 {w : rf_w} {K : rf_K} {r : Int32 × rf_m} (C : rf_Ctx 14 cX14_weightOf 3 8 (rf_sh w) K) (hE : rf_End (some .int) K (rf_sh w) 0 0 (some (.int r.1)) (rf_MM w r.2)) (n : Nat) : ∀ (a2 : Int32) (m : rf_m), g_X14_weightOf_12 w n a2 m = some r → rf_V 3 (rf_sh w) K 0 0 12 ([(0, .ref 206), (2, .int a2)], [], rf_MM w m) := by
  induction n with
  | zero => intro a2 m hg; cases hg
  | succ n ih => intro a2 m hg; exact s_X14_weightOf_12_b C hE ih a2 m hg
theorem c_X14_weightOf {w : rf_w} {m : rf_m} {a1 : Int32} {r : Int32 × rf_m} (hg : g_X14_weightOf w m a1 = some r) : rf_Con j_X14_weightOf 8 (rf_sh w) [.ref 206, .int a1] (rf_MM w m) (some (.int r.1)) (rf_MM w r.2) := by
  refine rf_con j_X14_weightOf 8 ⟨by decide +kernel, rfl, Nat.le_of_ble_eq_true rfl⟩ (fun K C hE => ?_)
  unfold g_X14_weightOf at hg
  show rf_V 3 (rf_sh w) K 0 0 0 ([(0, .ref 206), (1, .int a1)], [], rf_MM w m)
  refine rf_seg C [(.aload 0, 1), (.iload 1, 1)] (pc' := 2) (S' := ([(0, .ref 206), (1, .int a1)], [.int a1, .ref 206], rf_MM w m)) (by decide +kernel) rfl trivial ?_
  obtain ⟨m0, hc0, hg⟩ := rf_bv_some hg
  refine rf_callv C rf_fit0 j_X14_now (ci := 14) (As := [.int a1]) (rest := []) mw_X14_now (c_X14_now hc0) (by decide) rfl (by decide) lk_14_469 rfl rfl (Nat.le_of_ble_eq_true rfl) (by decide +kernel) ?_
  show rf_V 3 (rf_sh w) K 0 0 5 ([(0, .ref 206), (1, .int a1)], [], rf_MM w m0)
  refine rf_seg C [(.aload 0, 1), (.iload 1, 1)] (pc' := 7) (S' := ([(0, .ref 206), (1, .int a1)], [.int a1, .ref 206], rf_MM w m0)) (by decide +kernel) rfl trivial ?_
  obtain ⟨m1, hc1, hg⟩ := rf_bv_some hg
  refine rf_callv C rf_fit0 j_X14_namesOf (ci := 14) (As := [.int a1]) (rest := []) mw_X14_namesOf (c_X14_namesOf hc1) (by decide) rfl (by decide) lk_14_473 rfl rfl (Nat.le_of_ble_eq_true rfl) (by decide +kernel) ?_
  show rf_V 3 (rf_sh w) K 0 0 10 ([(0, .ref 206), (1, .int a1)], [], rf_MM w m1)
  refine rf_seg C [(.iconst 0, 1), (.istore 2, 1)] (pc' := 12) (S' := ([(2, .int 0), (0, .ref 206), (1, .int a1)], [], rf_MM w m1)) (by decide +kernel) rfl trivial ?_
  refine rf_few [1, 0] rfl ?_
  exact s_X14_weightOf_12 C hE rf_fuel 0 m1 hg
-- X14_isAgain
abbrev j_X14_isAgain : rf_J := (14, yX14_isAgain, cX14_isAgain, 3, (some .boolean))
theorem mw_X14_isAgain : rf_mv j_X14_isAgain (rf_R 14) 1 := ⟨⟨rf_mem 33 (by decide +kernel), rf_mem 33 (by decide +kernel), rf_mem 0 (by decide +kernel), rf_mem 33 (by decide +kernel)⟩, by decide +kernel, by decide⟩
def g_X14_isAgain_69 (w : rf_w) (rec21 : Int32 → rf_m → Option (Int32 × rf_m)) (a2 : Int32) (m : rf_m) : Option (Int32 × rf_m) := rec21 (a2 + 1) m
def g_X14_isAgain_21_b (w : rf_w) (rec21 : Int32 → rf_m → Option (Int32 × rf_m)) (a2 : Int32) (m : rf_m) : Option (Int32 × rf_m) := (if (m.1 206 39) ≤ a2 then some (0, m) else rf_g (rf_in a2 24) (rf_o (rf_Rt w 229 (Int32.toNatClampNeg a2)) fun k1 => rf_g (rf_isO w k1 12) (rf_g (rf_isR w k1 5 (k1 + 1)) (rf_g (rf_isA w (k1 + 1) .int 300) (rf_g (rf_isR w k1 6 (k1 + 2)) (rf_g (rf_isA w (k1 + 2) .int 300) ((if (m.1 k1 0) = 2 then rf_b (g_X14_isInForce w m a2 (m.1 206 5)) fun y7 m7 => (if y7 = 0 then g_X14_isAgain_69 w rec21 a2 m7 else rf_g (rf_in a2 24) (rf_o (rf_Rt w 229 (Int32.toNatClampNeg a2)) fun k9 => rf_g (rf_isO w k9 12) (rf_g (rf_isR w k9 5 (k9 + 1)) (rf_g (rf_isA w (k9 + 1) .int 300) (rf_g (rf_isR w k9 6 (k9 + 2)) (rf_g (rf_isA w (k9 + 2) .int 300) (rf_b (g_X14_testOf w m7 k9) fun y15 m15 => (if y15 = 0 then g_X14_isAgain_69 w rec21 a2 m15 else some (1, m15))))))))) else g_X14_isAgain_69 w rec21 a2 m))))))))
def g_X14_isAgain_21 (w : rf_w) : Nat → Int32 → rf_m → Option (Int32 × rf_m)
  | 0, _, _ => none
  | n + 1, a2, m => g_X14_isAgain_21_b w (g_X14_isAgain_21 w n) a2 m
def g_X14_isAgain (w : rf_w) (m : rf_m) (a1 : Int32) : Option (Int32 × rf_m) := rf_bv (g_X14_now w m a1) fun m0 => (if (m0.1 206 34) = 0 then some (1, m0) else rf_bv (g_X14_namesOf w m0 a1) fun m1 => g_X14_isAgain_21 w rf_fuel 0 m1)
theorem s_X14_isAgain_69 {w : rf_w} {K : rf_K} {r : Int32 × rf_m} (C : rf_Ctx 14 cX14_isAgain 3 8 (rf_sh w) K) (hE : rf_End (some .boolean) K (rf_sh w) 0 0 (some (.int r.1)) (rf_MM w r.2)) {rec21 : Int32 → rf_m → Option (Int32 × rf_m)} (hr21 : ∀ (a2 : Int32) (m : rf_m), rec21 a2 m = some r → rf_V 3 (rf_sh w) K 0 0 21 ([(0, .ref 206), (2, .int a2)], [], rf_MM w m)) (a2 : Int32) (m : rf_m) (hg : g_X14_isAgain_69 w rec21 a2 m = some r) : rf_V 3 (rf_sh w) K 0 0 69 ([(0, .ref 206), (2, .int a2)], [], rf_MM w m) := by
  unfold g_X14_isAgain_69 at hg
  refine rf_seg C [(.iinc 2 1, 3)] (pc' := 72) (S' := ([(2, .int (a2 + 1)), (0, .ref 206)], [], rf_MM w m)) (by decide +kernel) rfl trivial ?_
  refine rf_goto C (-51) 21 (by decide +kernel) ?_
  refine rf_few [1, 0] rfl ?_
  exact hr21 (a2 + 1) m hg
theorem s_X14_isAgain_21_b {w : rf_w} {K : rf_K} {r : Int32 × rf_m} (C : rf_Ctx 14 cX14_isAgain 3 8 (rf_sh w) K) (hE : rf_End (some .boolean) K (rf_sh w) 0 0 (some (.int r.1)) (rf_MM w r.2)) {rec21 : Int32 → rf_m → Option (Int32 × rf_m)} (hr21 : ∀ (a2 : Int32) (m : rf_m), rec21 a2 m = some r → rf_V 3 (rf_sh w) K 0 0 21 ([(0, .ref 206), (2, .int a2)], [], rf_MM w m)) (a2 : Int32) (m : rf_m) (hg : g_X14_isAgain_21_b w rec21 a2 m = some r) : rf_V 3 (rf_sh w) K 0 0 21 ([(0, .ref 206), (2, .int a2)], [], rf_MM w m) := by
  unfold g_X14_isAgain_21_b at hg
  refine rf_seg C [(.iload 2, 1), (.aload 0, 1), (.invokeinterface 14 39, 3)] (pc' := 26) (S' := ([(0, .ref 206), (2, .int a2)], [.int (m.1 206 39), .int a2], rf_MM w m)) (by decide +kernel) rfl trivial ?_
  refine rf_icmp_ge C 49 75 (by decide +kernel) (fun hc => ?_) (fun hc => ?_)
  · replace hg := (if_pos hc).symm.trans hg
    refine rf_seg C [(.iconst 0, 1)] (pc' := 76) (S' := ([(0, .ref 206), (2, .int a2)], [.int 0], rf_MM w m)) (by decide +kernel) rfl trivial ?_
    obtain rfl := Option.some.inj hg
    exact rf_zret C hE (by decide) (by decide +kernel)
  · replace hg := (if_neg hc).symm.trans hg
    refine rf_seg C [(.aload 0, 1), (.invokeinterface 14 40, 3), (.iload 2, 1)] (pc' := 34) (S' := ([(0, .ref 206), (2, .int a2)], [.int a2, .ref 229], rf_MM w m)) (by decide +kernel) rfl trivial ?_
    obtain ⟨q0, hg⟩ := rf_g_some hg
    obtain ⟨k1, hk1, hg⟩ := rf_o_some hg
    refine rf_d_aaload C (n := 24) (q := k1) rfl (rf_in_of q0) hk1 (by decide +kernel) ?_
    obtain ⟨q2, hg⟩ := rf_g_some hg
    obtain ⟨q3, hg⟩ := rf_g_some hg
    obtain ⟨q4, hg⟩ := rf_g_some hg
    obtain ⟨q5, hg⟩ := rf_g_some hg
    obtain ⟨q6, hg⟩ := rf_g_some hg
    show rf_V 3 (rf_sh w) K 0 0 35 ([(0, .ref 206), (2, .int a2)], [.ref k1], rf_MM w m)
    refine rf_d_get C 12 0 (rf_isO_of q2) (by decide +kernel) ?_
    show rf_V 3 (rf_sh w) K 0 0 38 ([(0, .ref 206), (2, .int a2)], [.int (m.1 k1 0)], rf_MM w m)
    refine rf_seg C [(.iconst 2, 1)] (pc' := 39) (S' := ([(0, .ref 206), (2, .int a2)], [.int 2, .int (m.1 k1 0)], rf_MM w m)) (by decide +kernel) rfl trivial ?_
    refine rf_icmp_ne C 30 69 (by decide +kernel) (fun hc => ?_) (fun hc => ?_)
    · replace hg := (if_neg hc).symm.trans hg
      refine rf_few [0, 1] rfl ?_
      exact s_X14_isAgain_69 C hE hr21 a2 m hg
    · replace hg := (if_pos hc).symm.trans hg
      refine rf_seg C [(.aload 0, 1), (.iload 2, 1), (.aload 0, 1), (.invokeinterface 14 5, 3)] (pc' := 48) (S' := ([(0, .ref 206), (2, .int a2)], [.int (m.1 206 5), .int a2, .ref 206], rf_MM w m)) (by decide +kernel) rfl trivial ?_
      obtain ⟨y7, m7, hc7, hg⟩ := rf_b_some hg
      refine rf_callv C rf_fit0 j_X14_isInForce (ci := 14) (As := [.int a2, .int (m.1 206 5)]) (rest := []) mw_X14_isInForce (c_X14_isInForce hc7) (by decide) rfl (by decide) lk_14_458 rfl rfl (Nat.le_of_ble_eq_true rfl) (by decide +kernel) ?_
      show rf_V 3 (rf_sh w) K 0 0 51 ([(0, .ref 206), (2, .int a2)], [.int y7], rf_MM w m7)
      refine rf_if_eq C 18 69 (by decide +kernel) (fun hc => ?_) (fun hc => ?_)
      · replace hg := (if_pos hc).symm.trans hg
        refine rf_few [0, 1] rfl ?_
        exact s_X14_isAgain_69 C hE hr21 a2 m7 hg
      · replace hg := (if_neg hc).symm.trans hg
        refine rf_seg C [(.aload 0, 1), (.aload 0, 1), (.invokeinterface 14 40, 3), (.iload 2, 1)] (pc' := 60) (S' := ([(0, .ref 206), (2, .int a2)], [.int a2, .ref 229, .ref 206], rf_MM w m7)) (by decide +kernel) rfl trivial ?_
        obtain ⟨q8, hg⟩ := rf_g_some hg
        obtain ⟨k9, hk9, hg⟩ := rf_o_some hg
        refine rf_d_aaload C (n := 24) (q := k9) rfl (rf_in_of q8) hk9 (by decide +kernel) ?_
        obtain ⟨q10, hg⟩ := rf_g_some hg
        obtain ⟨q11, hg⟩ := rf_g_some hg
        obtain ⟨q12, hg⟩ := rf_g_some hg
        obtain ⟨q13, hg⟩ := rf_g_some hg
        obtain ⟨q14, hg⟩ := rf_g_some hg
        show rf_V 3 (rf_sh w) K 0 0 61 ([(0, .ref 206), (2, .int a2)], [.ref k9, .ref 206], rf_MM w m7)
        obtain ⟨y15, m15, hc15, hg⟩ := rf_b_some hg
        refine rf_callv C rf_fit0 j_X14_testOf (ci := 14) (As := [.ref k9]) (rest := []) mw_X14_testOf (c_X14_testOf hc15) (by decide) rfl (by decide) lk_14_461 rfl rfl (Nat.le_of_ble_eq_true rfl) (by decide +kernel) ?_
        show rf_V 3 (rf_sh w) K 0 0 64 ([(0, .ref 206), (2, .int a2)], [.int y15], rf_MM w m15)
        refine rf_if_eq C 5 69 (by decide +kernel) (fun hc => ?_) (fun hc => ?_)
        · replace hg := (if_pos hc).symm.trans hg
          refine rf_few [0, 1] rfl ?_
          exact s_X14_isAgain_69 C hE hr21 a2 m15 hg
        · replace hg := (if_neg hc).symm.trans hg
          refine rf_seg C [(.iconst 1, 1)] (pc' := 68) (S' := ([(0, .ref 206), (2, .int a2)], [.int 1], rf_MM w m15)) (by decide +kernel) rfl trivial ?_
          obtain rfl := Option.some.inj hg
          exact rf_zret C hE (by decide) (by decide +kernel)
theorem s_X14_isAgain_21 {w : rf_w} {K : rf_K} {r : Int32 × rf_m} (C : rf_Ctx 14 cX14_isAgain 3 8 (rf_sh w) K) (hE : rf_End (some .boolean) K (rf_sh w) 0 0 (some (.int r.1)) (rf_MM w r.2)) (n : Nat) : ∀ (a2 : Int32) (m : rf_m), g_X14_isAgain_21 w n a2 m = some r → rf_V 3 (rf_sh w) K 0 0 21 ([(0, .ref 206), (2, .int a2)], [], rf_MM w m) := by
  induction n with
  | zero => intro a2 m hg; cases hg
  | succ n ih => intro a2 m hg; exact s_X14_isAgain_21_b C hE ih a2 m hg
theorem c_X14_isAgain {w : rf_w} {m : rf_m} {a1 : Int32} {r : Int32 × rf_m} (hg : g_X14_isAgain w m a1 = some r) : rf_Con j_X14_isAgain 8 (rf_sh w) [.ref 206, .int a1] (rf_MM w m) (some (.int r.1)) (rf_MM w r.2) := by
  refine rf_con j_X14_isAgain 8 ⟨by decide +kernel, rfl, Nat.le_of_ble_eq_true rfl⟩ (fun K C hE => ?_)
  unfold g_X14_isAgain at hg
  show rf_V 3 (rf_sh w) K 0 0 0 ([(0, .ref 206), (1, .int a1)], [], rf_MM w m)
  refine rf_seg C [(.aload 0, 1), (.iload 1, 1)] (pc' := 2) (S' := ([(0, .ref 206), (1, .int a1)], [.int a1, .ref 206], rf_MM w m)) (by decide +kernel) rfl trivial ?_
  obtain ⟨m0, hc0, hg⟩ := rf_bv_some hg
  refine rf_callv C rf_fit0 j_X14_now (ci := 14) (As := [.int a1]) (rest := []) mw_X14_now (c_X14_now hc0) (by decide) rfl (by decide) lk_14_469 rfl rfl (Nat.le_of_ble_eq_true rfl) (by decide +kernel) ?_
  show rf_V 3 (rf_sh w) K 0 0 5 ([(0, .ref 206), (1, .int a1)], [], rf_MM w m0)
  refine rf_seg C [(.aload 0, 1), (.invokeinterface 14 34, 3)] (pc' := 9) (S' := ([(0, .ref 206), (1, .int a1)], [.int (m0.1 206 34)], rf_MM w m0)) (by decide +kernel) rfl trivial ?_
  refine rf_if_ne C 5 14 (by decide +kernel) (fun hc => ?_) (fun hc => ?_)
  · replace hg := (if_neg hc).symm.trans hg
    refine rf_seg C [(.aload 0, 1), (.iload 1, 1)] (pc' := 16) (S' := ([(0, .ref 206), (1, .int a1)], [.int a1, .ref 206], rf_MM w m0)) (by decide +kernel) rfl trivial ?_
    obtain ⟨m1, hc1, hg⟩ := rf_bv_some hg
    refine rf_callv C rf_fit0 j_X14_namesOf (ci := 14) (As := [.int a1]) (rest := []) mw_X14_namesOf (c_X14_namesOf hc1) (by decide) rfl (by decide) lk_14_473 rfl rfl (Nat.le_of_ble_eq_true rfl) (by decide +kernel) ?_
    show rf_V 3 (rf_sh w) K 0 0 19 ([(0, .ref 206), (1, .int a1)], [], rf_MM w m1)
    refine rf_seg C [(.iconst 0, 1), (.istore 2, 1)] (pc' := 21) (S' := ([(2, .int 0), (0, .ref 206), (1, .int a1)], [], rf_MM w m1)) (by decide +kernel) rfl trivial ?_
    refine rf_few [1, 0] rfl ?_
    exact s_X14_isAgain_21 C hE rf_fuel 0 m1 hg
  · replace hg := (if_pos hc).symm.trans hg
    refine rf_seg C [(.iconst 1, 1)] (pc' := 13) (S' := ([(0, .ref 206), (1, .int a1)], [.int 1], rf_MM w m0)) (by decide +kernel) rfl trivial ?_
    obtain rfl := Option.some.inj hg
    exact rf_zret C hE (by decide) (by decide +kernel)
-- X14_angleOf
abbrev j_X14_angleOf : rf_J := (14, yX14_angleOf, cX14_angleOf, 3, (some .int))
theorem mw_X14_angleOf : rf_mv j_X14_angleOf (rf_R 14) 2 := ⟨⟨rf_mem 32 (by decide +kernel), rf_mem 32 (by decide +kernel), rf_mem 0 (by decide +kernel), rf_mem 32 (by decide +kernel)⟩, by decide +kernel, by decide⟩
def g_X14_angleOf (w : rf_w) (m : rf_m) (a1 : Int32) (a2 : Int32) : Option (Int32 × rf_m) := rf_b (g_X14_isAngle w (rf_i m 206 0 0) a1) fun y0 m0 => (if y0 = 0 then some ((-1), m0) else rf_bv (g_X14_now w m0 a1) fun m1 => (if a2 = 0 then some (m1.1 206 36, m1) else if a2 = 1 then (if (m1.1 206 34) = 0 then some ((-2), m1) else some ((m1.1 206 38) - (m1.1 206 37), m1)) else if a2 = 2 then some (m1.1 206 37, m1) else if a2 = 3 then some (m1.1 206 38, m1) else if a2 = 4 then some (m1.1 206 34, m1) else if a2 = 5 then some (m1.1 206 33, m1) else if a2 = 6 then rf_b (g_X14_readingsOf w m1 a1) fun y2 m2 => some (y2, m2) else if a2 = 7 then some (m1.1 206 35, m1) else if a2 = 8 then rf_b (g_X14_weightOf w m1 a1) fun y3 m3 => some (y3, m3) else if a2 = 9 then rf_b (g_X14_isAgain w m1 a1) fun y4 m4 => (if y4 = 0 then some (0, m4) else some (1, m4)) else if a2 = 10 then rf_g (rf_in a1 80) (some (m1.1 217 (Int32.toNatClampNeg a1), m1)) else some ((-1), m1)))
theorem c_X14_angleOf {w : rf_w} {m : rf_m} {a1 : Int32} {a2 : Int32} {r : Int32 × rf_m} (hg : g_X14_angleOf w m a1 a2 = some r) : rf_Con j_X14_angleOf 9 (rf_sh w) [.ref 206, .int a1, .int a2] (rf_MM w m) (some (.int r.1)) (rf_MM w r.2) := by
  refine rf_con j_X14_angleOf 9 ⟨by decide +kernel, rfl, Nat.le_of_ble_eq_true rfl⟩ (fun K C hE => ?_)
  unfold g_X14_angleOf at hg
  show rf_V 3 (rf_sh w) K 0 0 0 ([(0, .ref 206), (1, .int a1), (2, .int a2)], [], rf_MM w m)
  refine rf_seg C [(.aload 0, 1), (.iconst 0, 1), (.multianewarray 14 0, 3), (.aload 0, 1), (.iload 1, 1)] (pc' := 7) (S' := ([(0, .ref 206), (1, .int a1), (2, .int a2)], [.int a1, .ref 206], rf_MM w (rf_i m 206 0 0))) (by decide +kernel) rfl trivial ?_
  obtain ⟨y0, m0, hc0, hg⟩ := rf_b_some hg
  refine rf_callv C rf_fit0 j_X14_isAngle (ci := 14) (As := [.int a1]) (rest := []) mw_X14_isAngle (c_X14_isAngle hc0) (by decide) rfl (by decide) lk_14_402 rfl rfl (Nat.le_of_ble_eq_true rfl) (by decide +kernel) ?_
  show rf_V 3 (rf_sh w) K 0 0 10 ([(0, .ref 206), (1, .int a1), (2, .int a2)], [.int y0], rf_MM w m0)
  refine rf_if_ne C 5 15 (by decide +kernel) (fun hc => ?_) (fun hc => ?_)
  · replace hg := (if_neg hc).symm.trans hg
    refine rf_seg C [(.aload 0, 1), (.iload 1, 1)] (pc' := 17) (S' := ([(0, .ref 206), (1, .int a1), (2, .int a2)], [.int a1, .ref 206], rf_MM w m0)) (by decide +kernel) rfl trivial ?_
    obtain ⟨m1, hc1, hg⟩ := rf_bv_some hg
    refine rf_callv C rf_fit0 j_X14_now (ci := 14) (As := [.int a1]) (rest := []) mw_X14_now (c_X14_now hc1) (by decide) rfl (by decide) lk_14_469 rfl rfl (Nat.le_of_ble_eq_true rfl) (by decide +kernel) ?_
    show rf_V 3 (rf_sh w) K 0 0 20 ([(0, .ref 206), (1, .int a1), (2, .int a2)], [], rf_MM w m1)
    refine rf_seg C [(.iload 2, 1)] (pc' := 21) (S' := ([(0, .ref 206), (1, .int a1), (2, .int a2)], [.int a2], rf_MM w m1)) (by decide +kernel) rfl trivial ?_
    by_cases ht0 : a2 = 0
    · replace hg := (if_pos ht0).symm.trans hg
      refine rf_tabc C ht0 80 (by decide +kernel) ?_
      refine rf_seg C [(.aload 0, 1), (.invokeinterface 14 36, 3)] (pc' := 84) (S' := ([(0, .ref 206), (1, .int a1), (2, .int a2)], [.int (m1.1 206 36)], rf_MM w m1)) (by decide +kernel) rfl trivial ?_
      obtain rfl := Option.some.inj hg
      exact rf_iret C hE (by decide +kernel)
    · replace hg := (if_neg ht0).symm.trans hg
      by_cases ht1 : a2 = 1
      · replace hg := (if_pos ht1).symm.trans hg
        refine rf_tabc C ht1 85 (by decide +kernel) ?_
        refine rf_seg C [(.aload 0, 1), (.invokeinterface 14 34, 3)] (pc' := 89) (S' := ([(0, .ref 206), (1, .int a1), (2, .int a2)], [.int (m1.1 206 34)], rf_MM w m1)) (by decide +kernel) rfl trivial ?_
        refine rf_if_ne C 8 97 (by decide +kernel) (fun hc => ?_) (fun hc => ?_)
        · replace hg := (if_neg hc).symm.trans hg
          refine rf_seg C [(.aload 0, 1), (.invokeinterface 14 38, 3), (.aload 0, 1), (.invokeinterface 14 37, 3), (.isub, 1)] (pc' := 106) (S' := ([(0, .ref 206), (1, .int a1), (2, .int a2)], [.int ((m1.1 206 38) - (m1.1 206 37))], rf_MM w m1)) (by decide +kernel) rfl trivial ?_
          obtain rfl := Option.some.inj hg
          exact rf_iret C hE (by decide +kernel)
        · replace hg := (if_pos hc).symm.trans hg
          refine rf_seg C [(.iconst (-2), 2)] (pc' := 94) (S' := ([(0, .ref 206), (1, .int a1), (2, .int a2)], [.int ((-2))], rf_MM w m1)) (by decide +kernel) rfl trivial ?_
          refine rf_goto C 12 106 (by decide +kernel) ?_
          obtain rfl := Option.some.inj hg
          exact rf_iret C hE (by decide +kernel)
      · replace hg := (if_neg ht1).symm.trans hg
        by_cases ht2 : a2 = 2
        · replace hg := (if_pos ht2).symm.trans hg
          refine rf_tabc C ht2 107 (by decide +kernel) ?_
          refine rf_seg C [(.aload 0, 1), (.invokeinterface 14 37, 3)] (pc' := 111) (S' := ([(0, .ref 206), (1, .int a1), (2, .int a2)], [.int (m1.1 206 37)], rf_MM w m1)) (by decide +kernel) rfl trivial ?_
          obtain rfl := Option.some.inj hg
          exact rf_iret C hE (by decide +kernel)
        · replace hg := (if_neg ht2).symm.trans hg
          by_cases ht3 : a2 = 3
          · replace hg := (if_pos ht3).symm.trans hg
            refine rf_tabc C ht3 112 (by decide +kernel) ?_
            refine rf_seg C [(.aload 0, 1), (.invokeinterface 14 38, 3)] (pc' := 116) (S' := ([(0, .ref 206), (1, .int a1), (2, .int a2)], [.int (m1.1 206 38)], rf_MM w m1)) (by decide +kernel) rfl trivial ?_
            obtain rfl := Option.some.inj hg
            exact rf_iret C hE (by decide +kernel)
          · replace hg := (if_neg ht3).symm.trans hg
            by_cases ht4 : a2 = 4
            · replace hg := (if_pos ht4).symm.trans hg
              refine rf_tabc C ht4 117 (by decide +kernel) ?_
              refine rf_seg C [(.aload 0, 1), (.invokeinterface 14 34, 3)] (pc' := 121) (S' := ([(0, .ref 206), (1, .int a1), (2, .int a2)], [.int (m1.1 206 34)], rf_MM w m1)) (by decide +kernel) rfl trivial ?_
              obtain rfl := Option.some.inj hg
              exact rf_iret C hE (by decide +kernel)
            · replace hg := (if_neg ht4).symm.trans hg
              by_cases ht5 : a2 = 5
              · replace hg := (if_pos ht5).symm.trans hg
                refine rf_tabc C ht5 122 (by decide +kernel) ?_
                refine rf_seg C [(.aload 0, 1), (.invokeinterface 14 33, 3)] (pc' := 126) (S' := ([(0, .ref 206), (1, .int a1), (2, .int a2)], [.int (m1.1 206 33)], rf_MM w m1)) (by decide +kernel) rfl trivial ?_
                obtain rfl := Option.some.inj hg
                exact rf_iret C hE (by decide +kernel)
              · replace hg := (if_neg ht5).symm.trans hg
                by_cases ht6 : a2 = 6
                · replace hg := (if_pos ht6).symm.trans hg
                  refine rf_tabc C ht6 127 (by decide +kernel) ?_
                  refine rf_seg C [(.aload 0, 1), (.iload 1, 1)] (pc' := 129) (S' := ([(0, .ref 206), (1, .int a1), (2, .int a2)], [.int a1, .ref 206], rf_MM w m1)) (by decide +kernel) rfl trivial ?_
                  obtain ⟨y2, m2, hc2, hg⟩ := rf_b_some hg
                  refine rf_callv C rf_fit0 j_X14_readingsOf (ci := 14) (As := [.int a1]) (rest := []) mw_X14_readingsOf (c_X14_readingsOf hc2) (by decide) rfl (by decide) lk_14_415 rfl rfl (Nat.le_of_ble_eq_true rfl) (by decide +kernel) ?_
                  show rf_V 3 (rf_sh w) K 0 0 132 ([(0, .ref 206), (1, .int a1), (2, .int a2)], [.int y2], rf_MM w m2)
                  obtain rfl := Option.some.inj hg
                  exact rf_iret C hE (by decide +kernel)
                · replace hg := (if_neg ht6).symm.trans hg
                  by_cases ht7 : a2 = 7
                  · replace hg := (if_pos ht7).symm.trans hg
                    refine rf_tabc C ht7 133 (by decide +kernel) ?_
                    refine rf_seg C [(.aload 0, 1), (.invokeinterface 14 35, 3)] (pc' := 137) (S' := ([(0, .ref 206), (1, .int a1), (2, .int a2)], [.int (m1.1 206 35)], rf_MM w m1)) (by decide +kernel) rfl trivial ?_
                    obtain rfl := Option.some.inj hg
                    exact rf_iret C hE (by decide +kernel)
                  · replace hg := (if_neg ht7).symm.trans hg
                    by_cases ht8 : a2 = 8
                    · replace hg := (if_pos ht8).symm.trans hg
                      refine rf_tabc C ht8 138 (by decide +kernel) ?_
                      refine rf_seg C [(.aload 0, 1), (.iload 1, 1)] (pc' := 140) (S' := ([(0, .ref 206), (1, .int a1), (2, .int a2)], [.int a1, .ref 206], rf_MM w m1)) (by decide +kernel) rfl trivial ?_
                      obtain ⟨y3, m3, hc3, hg⟩ := rf_b_some hg
                      refine rf_callv C rf_fit0 j_X14_weightOf (ci := 14) (As := [.int a1]) (rest := []) mw_X14_weightOf (c_X14_weightOf hc3) (by decide) rfl (by decide) lk_14_480 rfl rfl (Nat.le_of_ble_eq_true rfl) (by decide +kernel) ?_
                      show rf_V 3 (rf_sh w) K 0 0 143 ([(0, .ref 206), (1, .int a1), (2, .int a2)], [.int y3], rf_MM w m3)
                      obtain rfl := Option.some.inj hg
                      exact rf_iret C hE (by decide +kernel)
                    · replace hg := (if_neg ht8).symm.trans hg
                      by_cases ht9 : a2 = 9
                      · replace hg := (if_pos ht9).symm.trans hg
                        refine rf_tabc C ht9 144 (by decide +kernel) ?_
                        refine rf_seg C [(.aload 0, 1), (.iload 1, 1)] (pc' := 146) (S' := ([(0, .ref 206), (1, .int a1), (2, .int a2)], [.int a1, .ref 206], rf_MM w m1)) (by decide +kernel) rfl trivial ?_
                        obtain ⟨y4, m4, hc4, hg⟩ := rf_b_some hg
                        refine rf_callv C rf_fit0 j_X14_isAgain (ci := 14) (As := [.int a1]) (rest := []) mw_X14_isAgain (c_X14_isAgain hc4) (by decide) rfl (by decide) lk_14_483 rfl rfl (Nat.le_of_ble_eq_true rfl) (by decide +kernel) ?_
                        show rf_V 3 (rf_sh w) K 0 0 149 ([(0, .ref 206), (1, .int a1), (2, .int a2)], [.int y4], rf_MM w m4)
                        refine rf_if_eq C 7 156 (by decide +kernel) (fun hc => ?_) (fun hc => ?_)
                        · replace hg := (if_pos hc).symm.trans hg
                          refine rf_seg C [(.iconst 0, 1)] (pc' := 157) (S' := ([(0, .ref 206), (1, .int a1), (2, .int a2)], [.int 0], rf_MM w m4)) (by decide +kernel) rfl trivial ?_
                          obtain rfl := Option.some.inj hg
                          exact rf_iret C hE (by decide +kernel)
                        · replace hg := (if_neg hc).symm.trans hg
                          refine rf_seg C [(.iconst 1, 1)] (pc' := 153) (S' := ([(0, .ref 206), (1, .int a1), (2, .int a2)], [.int 1], rf_MM w m4)) (by decide +kernel) rfl trivial ?_
                          refine rf_goto C 4 157 (by decide +kernel) ?_
                          obtain rfl := Option.some.inj hg
                          exact rf_iret C hE (by decide +kernel)
                      · replace hg := (if_neg ht9).symm.trans hg
                        by_cases ht10 : a2 = 10
                        · replace hg := (if_pos ht10).symm.trans hg
                          refine rf_tabc C ht10 158 (by decide +kernel) ?_
                          obtain ⟨q5, hg⟩ := rf_g_some hg
                          refine rf_seg C [(.aload 0, 1), (.invokeinterface 14 21, 3), (.iload 1, 1), (.iaload, 1)] (pc' := 164) (S' := ([(0, .ref 206), (1, .int a1), (2, .int a2)], [.int (m1.1 217 (Int32.toNatClampNeg a1))], rf_MM w m1)) (by decide +kernel) rfl (rf_in_of q5) ?_
                          obtain rfl := Option.some.inj hg
                          exact rf_iret C hE (by decide +kernel)
                        · replace hg := (if_neg ht10).symm.trans hg
                          refine rf_tabd C 0 10 165 (by decide +kernel) (by have t0 : (a2).toInt ≠ 0 := rf_ti ht0; have t1 : (a2).toInt ≠ 1 := rf_ti ht1; have t2 : (a2).toInt ≠ 2 := rf_ti ht2; have t3 : (a2).toInt ≠ 3 := rf_ti ht3; have t4 : (a2).toInt ≠ 4 := rf_ti ht4; have t5 : (a2).toInt ≠ 5 := rf_ti ht5; have t6 : (a2).toInt ≠ 6 := rf_ti ht6; have t7 : (a2).toInt ≠ 7 := rf_ti ht7; have t8 : (a2).toInt ≠ 8 := rf_ti ht8; have t9 : (a2).toInt ≠ 9 := rf_ti ht9; have t10 : (a2).toInt ≠ 10 := rf_ti ht10; omega) ?_
                          refine rf_seg C [(.iconst (-1), 1)] (pc' := 166) (S' := ([(0, .ref 206), (1, .int a1), (2, .int a2)], [.int ((-1))], rf_MM w m1)) (by decide +kernel) rfl trivial ?_
                          obtain rfl := Option.some.inj hg
                          exact rf_iret C hE (by decide +kernel)
  · replace hg := (if_pos hc).symm.trans hg
    refine rf_seg C [(.iconst (-1), 1)] (pc' := 14) (S' := ([(0, .ref 206), (1, .int a1), (2, .int a2)], [.int ((-1))], rf_MM w m0)) (by decide +kernel) rfl trivial ?_
    obtain rfl := Option.some.inj hg
    exact rf_iret C hE (by decide +kernel)
-- X14_known
abbrev j_X14_known : rf_J := (14, yX14_known, cX14_known, 3, (some .int))
theorem mw_X14_known : rf_mv j_X14_known (rf_R 14) 2 := ⟨⟨rf_mem 33 (by decide +kernel), rf_mem 33 (by decide +kernel), rf_mem 0 (by decide +kernel), rf_mem 34 (by decide +kernel)⟩, by decide +kernel, by decide⟩
def g_X14_known (w : rf_w) (m : rf_m) (a1 : Int32) (a2 : Int32) : Option (Int32 × rf_m) := rf_b (g_X14_isAngle w (rf_i m 206 0 0) a1) fun y0 m0 => (if y0 = 0 then some ((-1), m0) else rf_b (g_X14_in w m0 a2 0 (m0.1 206 5)) fun y1 m1 => (if y1 = 0 then some ((-1), m1) else rf_bv (g_X14_goes w m1 a1 a2) fun m2 => some (m2.1 206 36, m2)))
theorem c_X14_known {w : rf_w} {m : rf_m} {a1 : Int32} {a2 : Int32} {r : Int32 × rf_m} (hg : g_X14_known w m a1 a2 = some r) : rf_Con j_X14_known 7 (rf_sh w) [.ref 206, .int a1, .int a2] (rf_MM w m) (some (.int r.1)) (rf_MM w r.2) := by
  refine rf_con j_X14_known 7 ⟨by decide +kernel, rfl, Nat.le_of_ble_eq_true rfl⟩ (fun K C hE => ?_)
  unfold g_X14_known at hg
  show rf_V 3 (rf_sh w) K 0 0 0 ([(0, .ref 206), (1, .int a1), (2, .int a2)], [], rf_MM w m)
  refine rf_seg C [(.aload 0, 1), (.iconst 0, 1), (.multianewarray 14 0, 3), (.aload 0, 1), (.iload 1, 1)] (pc' := 7) (S' := ([(0, .ref 206), (1, .int a1), (2, .int a2)], [.int a1, .ref 206], rf_MM w (rf_i m 206 0 0))) (by decide +kernel) rfl trivial ?_
  obtain ⟨y0, m0, hc0, hg⟩ := rf_b_some hg
  refine rf_callv C rf_fit0 j_X14_isAngle (ci := 14) (As := [.int a1]) (rest := []) mw_X14_isAngle (c_X14_isAngle hc0) (by decide) rfl (by decide) lk_14_402 rfl rfl (Nat.le_of_ble_eq_true rfl) (by decide +kernel) ?_
  show rf_V 3 (rf_sh w) K 0 0 10 ([(0, .ref 206), (1, .int a1), (2, .int a2)], [.int y0], rf_MM w m0)
  refine rf_if_eq C 15 25 (by decide +kernel) (fun hc => ?_) (fun hc => ?_)
  · replace hg := (if_pos hc).symm.trans hg
    refine rf_seg C [(.iconst (-1), 1)] (pc' := 26) (S' := ([(0, .ref 206), (1, .int a1), (2, .int a2)], [.int ((-1))], rf_MM w m0)) (by decide +kernel) rfl trivial ?_
    obtain rfl := Option.some.inj hg
    exact rf_iret C hE (by decide +kernel)
  · replace hg := (if_neg hc).symm.trans hg
    refine rf_seg C [(.iload 2, 1), (.iconst 0, 1), (.aload 0, 1), (.invokeinterface 14 5, 3)] (pc' := 19) (S' := ([(0, .ref 206), (1, .int a1), (2, .int a2)], [.int (m0.1 206 5), .int 0, .int a2], rf_MM w m0)) (by decide +kernel) rfl trivial ?_
    obtain ⟨y1, m1, hc1, hg⟩ := rf_b_some hg
    refine rf_calls C rf_fit0 j_X14_in (As := [.int a2, .int 0, .int (m0.1 206 5)]) (rest := []) mw_X14_in (c_X14_in hc1) (by decide) lk_14_345 rfl rfl (Nat.le_of_ble_eq_true rfl) (by decide +kernel) ?_
    show rf_V 3 (rf_sh w) K 0 0 22 ([(0, .ref 206), (1, .int a1), (2, .int a2)], [.int y1], rf_MM w m1)
    refine rf_if_ne C 5 27 (by decide +kernel) (fun hc => ?_) (fun hc => ?_)
    · replace hg := (if_neg hc).symm.trans hg
      refine rf_seg C [(.aload 0, 1), (.iload 1, 1), (.iload 2, 1)] (pc' := 30) (S' := ([(0, .ref 206), (1, .int a1), (2, .int a2)], [.int a2, .int a1, .ref 206], rf_MM w m1)) (by decide +kernel) rfl trivial ?_
      obtain ⟨m2, hc2, hg⟩ := rf_bv_some hg
      refine rf_callv C rf_fit0 j_X14_goes (ci := 14) (As := [.int a1, .int a2]) (rest := []) mw_X14_goes (c_X14_goes hc2) (by decide) rfl (by decide) lk_14_465 rfl rfl (Nat.le_of_ble_eq_true rfl) (by decide +kernel) ?_
      show rf_V 3 (rf_sh w) K 0 0 33 ([(0, .ref 206), (1, .int a1), (2, .int a2)], [], rf_MM w m2)
      refine rf_seg C [(.aload 0, 1), (.invokeinterface 14 36, 3)] (pc' := 37) (S' := ([(0, .ref 206), (1, .int a1), (2, .int a2)], [.int (m2.1 206 36)], rf_MM w m2)) (by decide +kernel) rfl trivial ?_
      obtain rfl := Option.some.inj hg
      exact rf_iret C hE (by decide +kernel)
    · replace hg := (if_pos hc).symm.trans hg
      refine rf_seg C [(.iconst (-1), 1)] (pc' := 26) (S' := ([(0, .ref 206), (1, .int a1), (2, .int a2)], [.int ((-1))], rf_MM w m1)) (by decide +kernel) rfl trivial ?_
      obtain rfl := Option.some.inj hg
      exact rf_iret C hE (by decide +kernel)
-- X14_led
abbrev j_X14_led : rf_J := (14, yX14_led, cX14_led, 3, (some .int))
theorem mw_X14_led : rf_mv j_X14_led (rf_R 14) 2 := ⟨⟨rf_mem 34 (by decide +kernel), rf_mem 34 (by decide +kernel), rf_mem 0 (by decide +kernel), rf_mem 34 (by decide +kernel)⟩, by decide +kernel, by decide⟩
def g_X14_led_33 (w : rf_w) (a2 : Int32) (m : rf_m) : Option (Int32 × rf_m) := (if ((rf_i m 206 0 1).1 206 0) ≤ 0 then rf_g (rf_in a2 20) (some ((rf_i m 206 0 1).1 227 (Int32.toNatClampNeg a2), rf_i m 206 0 1)) else some (0, rf_i m 206 0 1))
def g_X14_led (w : rf_w) (m : rf_m) (a1 : Int32) (a2 : Int32) : Option (Int32 × rf_m) := rf_b (g_X14_isAngle w (rf_i m 206 0 1) a1) fun y0 m0 => (if y0 = 0 then some (0, m0) else rf_bv (g_X14_now w m0 a1) fun m1 => (if a2 < 0 then g_X14_led_33 w a2 m1 else (if a2 < (m1.1 206 34) then (if ((rf_i m1 206 0 0).1 206 0) ≤ 0 then rf_g (rf_in a2 20) (some ((rf_i m1 206 0 0).1 227 (Int32.toNatClampNeg a2), rf_i m1 206 0 0)) else some (0, rf_i m1 206 0 0)) else g_X14_led_33 w a2 m1)))
theorem s_X14_led_33 {w : rf_w} {K : rf_K} {r : Int32 × rf_m} (C : rf_Ctx 14 cX14_led 3 8 (rf_sh w) K) (hE : rf_End (some .int) K (rf_sh w) 0 0 (some (.int r.1)) (rf_MM w r.2)) (a2 : Int32) (m : rf_m) (hg : g_X14_led_33 w a2 m = some r) : rf_V 3 (rf_sh w) K 0 0 33 ([(0, .ref 206), (2, .int a2)], [.ref 206], rf_MM w m) := by
  unfold g_X14_led_33 at hg
  refine rf_seg C [(.iconst 1, 1)] (pc' := 34) (S' := ([(0, .ref 206), (2, .int a2)], [.int 1, .ref 206], rf_MM w m)) (by decide +kernel) rfl trivial ?_
  refine rf_goto C 4 38 (by decide +kernel) ?_
  refine rf_seg C [(.multianewarray 14 0, 3), (.aload 0, 1), (.invokeinterface 14 0, 3)] (pc' := 45) (S' := ([(0, .ref 206), (2, .int a2)], [.int ((rf_i m 206 0 1).1 206 0)], rf_MM w (rf_i m 206 0 1))) (by decide +kernel) rfl trivial ?_
  refine rf_if_le C 7 52 (by decide +kernel) (fun hc => ?_) (fun hc => ?_)
  · replace hg := (if_pos hc).symm.trans hg
    obtain ⟨q0, hg⟩ := rf_g_some hg
    refine rf_seg C [(.aload 0, 1), (.invokeinterface 14 31, 3), (.iload 2, 1), (.iaload, 1)] (pc' := 58) (S' := ([(0, .ref 206), (2, .int a2)], [.int ((rf_i m 206 0 1).1 227 (Int32.toNatClampNeg a2))], rf_MM w (rf_i m 206 0 1))) (by decide +kernel) rfl (rf_in_of q0) ?_
    obtain rfl := Option.some.inj hg
    exact rf_iret C hE (by decide +kernel)
  · replace hg := (if_neg hc).symm.trans hg
    refine rf_seg C [(.iconst 0, 1)] (pc' := 49) (S' := ([(0, .ref 206), (2, .int a2)], [.int 0], rf_MM w (rf_i m 206 0 1))) (by decide +kernel) rfl trivial ?_
    refine rf_goto C 9 58 (by decide +kernel) ?_
    obtain rfl := Option.some.inj hg
    exact rf_iret C hE (by decide +kernel)
theorem c_X14_led {w : rf_w} {m : rf_m} {a1 : Int32} {a2 : Int32} {r : Int32 × rf_m} (hg : g_X14_led w m a1 a2 = some r) : rf_Con j_X14_led 8 (rf_sh w) [.ref 206, .int a1, .int a2] (rf_MM w m) (some (.int r.1)) (rf_MM w r.2) := by
  refine rf_con j_X14_led 8 ⟨by decide +kernel, rfl, Nat.le_of_ble_eq_true rfl⟩ (fun K C hE => ?_)
  unfold g_X14_led at hg
  show rf_V 3 (rf_sh w) K 0 0 0 ([(0, .ref 206), (1, .int a1), (2, .int a2)], [], rf_MM w m)
  refine rf_seg C [(.aload 0, 1), (.iconst 1, 1), (.multianewarray 14 0, 3), (.aload 0, 1), (.iload 1, 1)] (pc' := 7) (S' := ([(0, .ref 206), (1, .int a1), (2, .int a2)], [.int a1, .ref 206], rf_MM w (rf_i m 206 0 1))) (by decide +kernel) rfl trivial ?_
  obtain ⟨y0, m0, hc0, hg⟩ := rf_b_some hg
  refine rf_callv C rf_fit0 j_X14_isAngle (ci := 14) (As := [.int a1]) (rest := []) mw_X14_isAngle (c_X14_isAngle hc0) (by decide) rfl (by decide) lk_14_402 rfl rfl (Nat.le_of_ble_eq_true rfl) (by decide +kernel) ?_
  show rf_V 3 (rf_sh w) K 0 0 10 ([(0, .ref 206), (1, .int a1), (2, .int a2)], [.int y0], rf_MM w m0)
  refine rf_if_ne C 5 15 (by decide +kernel) (fun hc => ?_) (fun hc => ?_)
  · replace hg := (if_neg hc).symm.trans hg
    refine rf_seg C [(.aload 0, 1), (.iload 1, 1)] (pc' := 17) (S' := ([(0, .ref 206), (1, .int a1), (2, .int a2)], [.int a1, .ref 206], rf_MM w m0)) (by decide +kernel) rfl trivial ?_
    obtain ⟨m1, hc1, hg⟩ := rf_bv_some hg
    refine rf_callv C rf_fit0 j_X14_now (ci := 14) (As := [.int a1]) (rest := []) mw_X14_now (c_X14_now hc1) (by decide) rfl (by decide) lk_14_469 rfl rfl (Nat.le_of_ble_eq_true rfl) (by decide +kernel) ?_
    show rf_V 3 (rf_sh w) K 0 0 20 ([(0, .ref 206), (1, .int a1), (2, .int a2)], [], rf_MM w m1)
    refine rf_seg C [(.aload 0, 1), (.iload 2, 1)] (pc' := 22) (S' := ([(0, .ref 206), (1, .int a1), (2, .int a2)], [.int a2, .ref 206], rf_MM w m1)) (by decide +kernel) rfl trivial ?_
    refine rf_if_lt C 11 33 (by decide +kernel) (fun hc => ?_) (fun hc => ?_)
    · replace hg := (if_pos hc).symm.trans hg
      refine rf_few [0, 2] rfl ?_
      exact s_X14_led_33 C hE a2 m1 hg
    · replace hg := (if_neg hc).symm.trans hg
      refine rf_seg C [(.iload 2, 1), (.aload 0, 1), (.invokeinterface 14 34, 3)] (pc' := 30) (S' := ([(0, .ref 206), (1, .int a1), (2, .int a2)], [.int (m1.1 206 34), .int a2, .ref 206], rf_MM w m1)) (by decide +kernel) rfl trivial ?_
      refine rf_icmp_lt C 7 37 (by decide +kernel) (fun hc => ?_) (fun hc => ?_)
      · replace hg := (if_pos hc).symm.trans hg
        refine rf_seg C [(.iconst 0, 1), (.multianewarray 14 0, 3), (.aload 0, 1), (.invokeinterface 14 0, 3)] (pc' := 45) (S' := ([(0, .ref 206), (1, .int a1), (2, .int a2)], [.int ((rf_i m1 206 0 0).1 206 0)], rf_MM w (rf_i m1 206 0 0))) (by decide +kernel) rfl trivial ?_
        refine rf_if_le C 7 52 (by decide +kernel) (fun hc => ?_) (fun hc => ?_)
        · replace hg := (if_pos hc).symm.trans hg
          obtain ⟨q2, hg⟩ := rf_g_some hg
          refine rf_seg C [(.aload 0, 1), (.invokeinterface 14 31, 3), (.iload 2, 1), (.iaload, 1)] (pc' := 58) (S' := ([(0, .ref 206), (1, .int a1), (2, .int a2)], [.int ((rf_i m1 206 0 0).1 227 (Int32.toNatClampNeg a2))], rf_MM w (rf_i m1 206 0 0))) (by decide +kernel) rfl (rf_in_of q2) ?_
          obtain rfl := Option.some.inj hg
          exact rf_iret C hE (by decide +kernel)
        · replace hg := (if_neg hc).symm.trans hg
          refine rf_seg C [(.iconst 0, 1)] (pc' := 49) (S' := ([(0, .ref 206), (1, .int a1), (2, .int a2)], [.int 0], rf_MM w (rf_i m1 206 0 0))) (by decide +kernel) rfl trivial ?_
          refine rf_goto C 9 58 (by decide +kernel) ?_
          obtain rfl := Option.some.inj hg
          exact rf_iret C hE (by decide +kernel)
      · replace hg := (if_neg hc).symm.trans hg
        refine rf_few [0, 2] rfl ?_
        exact s_X14_led_33 C hE a2 m1 hg
  · replace hg := (if_pos hc).symm.trans hg
    refine rf_seg C [(.iconst 0, 1)] (pc' := 14) (S' := ([(0, .ref 206), (1, .int a1), (2, .int a2)], [.int 0], rf_MM w m0)) (by decide +kernel) rfl trivial ?_
    obtain rfl := Option.some.inj hg
    exact rf_iret C hE (by decide +kernel)
-- X14_byteAt
abbrev j_X14_byteAt : rf_J := (14, yX14_byteAt, cX14_byteAt, 2, (some .int))
theorem mw_X14_byteAt : rf_mv j_X14_byteAt (rf_R 14) 1 := ⟨⟨rf_mem 47 (by decide +kernel), rf_mem 48 (by decide +kernel), rf_mem 0 (by decide +kernel), rf_mem 48 (by decide +kernel)⟩, by decide +kernel, by decide⟩
def g_X14_byteAt (w : rf_w) (m : rf_m) (a1 : Int32) : Option (Int32 × rf_m) := (if (m.1 206 45) ≤ a1 then some ((-1), m) else rf_g (rf_in a1 300) (some ((m.1 234 (Int32.toNatClampNeg a1)) &&& 255, m)))
theorem c_X14_byteAt {w : rf_w} {m : rf_m} {a1 : Int32} {r : Int32 × rf_m} (hg : g_X14_byteAt w m a1 = some r) : rf_Con j_X14_byteAt 1 (rf_sh w) [.ref 206, .int a1] (rf_MM w m) (some (.int r.1)) (rf_MM w r.2) := by
  refine rf_con j_X14_byteAt 1 ⟨by decide +kernel, rfl, Nat.le_of_ble_eq_true rfl⟩ (fun K C hE => ?_)
  unfold g_X14_byteAt at hg
  show rf_V 2 (rf_sh w) K 0 0 0 ([(0, .ref 206), (1, .int a1)], [], rf_MM w m)
  refine rf_seg C [(.iload 1, 1), (.aload 0, 1), (.invokeinterface 14 45, 3)] (pc' := 5) (S' := ([(0, .ref 206), (1, .int a1)], [.int (m.1 206 45), .int a1], rf_MM w m)) (by decide +kernel) rfl trivial ?_
  refine rf_icmp_ge C 16 21 (by decide +kernel) (fun hc => ?_) (fun hc => ?_)
  · replace hg := (if_pos hc).symm.trans hg
    refine rf_seg C [(.iconst (-1), 1)] (pc' := 22) (S' := ([(0, .ref 206), (1, .int a1)], [.int ((-1))], rf_MM w m)) (by decide +kernel) rfl trivial ?_
    obtain rfl := Option.some.inj hg
    exact rf_iret C hE (by decide +kernel)
  · replace hg := (if_neg hc).symm.trans hg
    obtain ⟨q0, hg⟩ := rf_g_some hg
    refine rf_seg C [(.aload 0, 1), (.invokeinterface 14 43, 3), (.iload 1, 1), (.baload, 1), (.iconst 255, 3), (.iand, 1)] (pc' := 18) (S' := ([(0, .ref 206), (1, .int a1)], [.int ((m.1 234 (Int32.toNatClampNeg a1)) &&& 255)], rf_MM w m)) (by decide +kernel) rfl (rf_in_of q0) ?_
    refine rf_goto C 4 22 (by decide +kernel) ?_
    obtain rfl := Option.some.inj hg
    exact rf_iret C hE (by decide +kernel)
-- X14_isLetter
abbrev j_X14_isLetter : rf_J := (14, yX14_isLetter, cX14_isLetter, 1, (some .boolean))
theorem mw_X14_isLetter : rf_ms j_X14_isLetter 1 := ⟨⟨rf_mem 48 (by decide +kernel), rf_mem 0 (by decide +kernel), rf_mem 48 (by decide +kernel)⟩, by decide +kernel, by decide⟩
def g_X14_isLetter (w : rf_w) (m : rf_m) (a0 : Int32) : Option (Int32 × rf_m) := (if a0 < 97 then some (0, m) else (if 122 < a0 then some (0, m) else some (1, m)))
theorem c_X14_isLetter {w : rf_w} {m : rf_m} {a0 : Int32} {r : Int32 × rf_m} (hg : g_X14_isLetter w m a0 = some r) : rf_Con j_X14_isLetter 1 (rf_sh w) [.int a0] (rf_MM w m) (some (.int r.1)) (rf_MM w r.2) := by
  refine rf_con j_X14_isLetter 1 ⟨by decide +kernel, rfl, Nat.le_of_ble_eq_true rfl⟩ (fun K C hE => ?_)
  unfold g_X14_isLetter at hg
  show rf_V 1 (rf_sh w) K 0 0 0 ([(0, .int a0)], [], rf_MM w m)
  refine rf_seg C [(.iload 0, 1), (.iconst 97, 2)] (pc' := 3) (S' := ([(0, .int a0)], [.int 97, .int a0], rf_MM w m)) (by decide +kernel) rfl trivial ?_
  refine rf_icmp_lt C 13 16 (by decide +kernel) (fun hc => ?_) (fun hc => ?_)
  · replace hg := (if_pos hc).symm.trans hg
    refine rf_seg C [(.iconst 0, 1)] (pc' := 17) (S' := ([(0, .int a0)], [.int 0], rf_MM w m)) (by decide +kernel) rfl trivial ?_
    obtain rfl := Option.some.inj hg
    exact rf_zret C hE (by decide) (by decide +kernel)
  · replace hg := (if_neg hc).symm.trans hg
    refine rf_seg C [(.iload 0, 1), (.iconst 122, 2)] (pc' := 9) (S' := ([(0, .int a0)], [.int 122, .int a0], rf_MM w m)) (by decide +kernel) rfl trivial ?_
    refine rf_icmp_gt C 7 16 (by decide +kernel) (fun hc => ?_) (fun hc => ?_)
    · replace hg := (if_pos hc).symm.trans hg
      refine rf_seg C [(.iconst 0, 1)] (pc' := 17) (S' := ([(0, .int a0)], [.int 0], rf_MM w m)) (by decide +kernel) rfl trivial ?_
      obtain rfl := Option.some.inj hg
      exact rf_zret C hE (by decide) (by decide +kernel)
    · replace hg := (if_neg hc).symm.trans hg
      refine rf_seg C [(.iconst 1, 1)] (pc' := 13) (S' := ([(0, .int a0)], [.int 1], rf_MM w m)) (by decide +kernel) rfl trivial ?_
      refine rf_goto C 4 17 (by decide +kernel) ?_
      obtain rfl := Option.some.inj hg
      exact rf_zret C hE (by decide) (by decide +kernel)
-- X14_isDigit
abbrev j_X14_isDigit : rf_J := (14, yX14_isDigit, cX14_isDigit, 1, (some .boolean))
theorem mw_X14_isDigit : rf_ms j_X14_isDigit 1 := ⟨⟨rf_mem 48 (by decide +kernel), rf_mem 0 (by decide +kernel), rf_mem 48 (by decide +kernel)⟩, by decide +kernel, by decide⟩
def g_X14_isDigit (w : rf_w) (m : rf_m) (a0 : Int32) : Option (Int32 × rf_m) := (if a0 < 48 then some (0, m) else (if 57 < a0 then some (0, m) else some (1, m)))
theorem c_X14_isDigit {w : rf_w} {m : rf_m} {a0 : Int32} {r : Int32 × rf_m} (hg : g_X14_isDigit w m a0 = some r) : rf_Con j_X14_isDigit 1 (rf_sh w) [.int a0] (rf_MM w m) (some (.int r.1)) (rf_MM w r.2) := by
  refine rf_con j_X14_isDigit 1 ⟨by decide +kernel, rfl, Nat.le_of_ble_eq_true rfl⟩ (fun K C hE => ?_)
  unfold g_X14_isDigit at hg
  show rf_V 1 (rf_sh w) K 0 0 0 ([(0, .int a0)], [], rf_MM w m)
  refine rf_seg C [(.iload 0, 1), (.iconst 48, 2)] (pc' := 3) (S' := ([(0, .int a0)], [.int 48, .int a0], rf_MM w m)) (by decide +kernel) rfl trivial ?_
  refine rf_icmp_lt C 13 16 (by decide +kernel) (fun hc => ?_) (fun hc => ?_)
  · replace hg := (if_pos hc).symm.trans hg
    refine rf_seg C [(.iconst 0, 1)] (pc' := 17) (S' := ([(0, .int a0)], [.int 0], rf_MM w m)) (by decide +kernel) rfl trivial ?_
    obtain rfl := Option.some.inj hg
    exact rf_zret C hE (by decide) (by decide +kernel)
  · replace hg := (if_neg hc).symm.trans hg
    refine rf_seg C [(.iload 0, 1), (.iconst 57, 2)] (pc' := 9) (S' := ([(0, .int a0)], [.int 57, .int a0], rf_MM w m)) (by decide +kernel) rfl trivial ?_
    refine rf_icmp_gt C 7 16 (by decide +kernel) (fun hc => ?_) (fun hc => ?_)
    · replace hg := (if_pos hc).symm.trans hg
      refine rf_seg C [(.iconst 0, 1)] (pc' := 17) (S' := ([(0, .int a0)], [.int 0], rf_MM w m)) (by decide +kernel) rfl trivial ?_
      obtain rfl := Option.some.inj hg
      exact rf_zret C hE (by decide) (by decide +kernel)
    · replace hg := (if_neg hc).symm.trans hg
      refine rf_seg C [(.iconst 1, 1)] (pc' := 13) (S' := ([(0, .int a0)], [.int 1], rf_MM w m)) (by decide +kernel) rfl trivial ?_
      refine rf_goto C 4 17 (by decide +kernel) ?_
      obtain rfl := Option.some.inj hg
      exact rf_zret C hE (by decide) (by decide +kernel)
-- X14_isMarkByte
abbrev j_X14_isMarkByte : rf_J := (14, yX14_isMarkByte, cX14_isMarkByte, 1, (some .boolean))
theorem mw_X14_isMarkByte : rf_ms j_X14_isMarkByte 1 := ⟨⟨rf_mem 48 (by decide +kernel), rf_mem 0 (by decide +kernel), rf_mem 48 (by decide +kernel)⟩, by decide +kernel, by decide⟩
def g_X14_isMarkByte (w : rf_w) (m : rf_m) (a0 : Int32) : Option (Int32 × rf_m) := (if a0 = 60 then some (1, m) else (if a0 = 62 then some (1, m) else (if a0 = 61 then some (1, m) else (if a0 = 43 then some (1, m) else (if a0 = 45 then some (1, m) else (if a0 = 42 then some (1, m) else (if a0 = 40 then some (1, m) else (if a0 = 41 then some (1, m) else some (0, m)))))))))
theorem c_X14_isMarkByte {w : rf_w} {m : rf_m} {a0 : Int32} {r : Int32 × rf_m} (hg : g_X14_isMarkByte w m a0 = some r) : rf_Con j_X14_isMarkByte 1 (rf_sh w) [.int a0] (rf_MM w m) (some (.int r.1)) (rf_MM w r.2) := by
  refine rf_con j_X14_isMarkByte 1 ⟨by decide +kernel, rfl, Nat.le_of_ble_eq_true rfl⟩ (fun K C hE => ?_)
  unfold g_X14_isMarkByte at hg
  show rf_V 1 (rf_sh w) K 0 0 0 ([(0, .int a0)], [], rf_MM w m)
  refine rf_seg C [(.iload 0, 1), (.iconst 60, 2)] (pc' := 3) (S' := ([(0, .int a0)], [.int 60, .int a0], rf_MM w m)) (by decide +kernel) rfl trivial ?_
  refine rf_icmp_eq C 45 48 (by decide +kernel) (fun hc => ?_) (fun hc => ?_)
  · replace hg := (if_pos hc).symm.trans hg
    refine rf_seg C [(.iconst 1, 1)] (pc' := 49) (S' := ([(0, .int a0)], [.int 1], rf_MM w m)) (by decide +kernel) rfl trivial ?_
    refine rf_goto C 4 53 (by decide +kernel) ?_
    obtain rfl := Option.some.inj hg
    exact rf_zret C hE (by decide) (by decide +kernel)
  · replace hg := (if_neg hc).symm.trans hg
    refine rf_seg C [(.iload 0, 1), (.iconst 62, 2)] (pc' := 9) (S' := ([(0, .int a0)], [.int 62, .int a0], rf_MM w m)) (by decide +kernel) rfl trivial ?_
    refine rf_icmp_eq C 39 48 (by decide +kernel) (fun hc => ?_) (fun hc => ?_)
    · replace hg := (if_pos hc).symm.trans hg
      refine rf_seg C [(.iconst 1, 1)] (pc' := 49) (S' := ([(0, .int a0)], [.int 1], rf_MM w m)) (by decide +kernel) rfl trivial ?_
      refine rf_goto C 4 53 (by decide +kernel) ?_
      obtain rfl := Option.some.inj hg
      exact rf_zret C hE (by decide) (by decide +kernel)
    · replace hg := (if_neg hc).symm.trans hg
      refine rf_seg C [(.iload 0, 1), (.iconst 61, 2)] (pc' := 15) (S' := ([(0, .int a0)], [.int 61, .int a0], rf_MM w m)) (by decide +kernel) rfl trivial ?_
      refine rf_icmp_eq C 33 48 (by decide +kernel) (fun hc => ?_) (fun hc => ?_)
      · replace hg := (if_pos hc).symm.trans hg
        refine rf_seg C [(.iconst 1, 1)] (pc' := 49) (S' := ([(0, .int a0)], [.int 1], rf_MM w m)) (by decide +kernel) rfl trivial ?_
        refine rf_goto C 4 53 (by decide +kernel) ?_
        obtain rfl := Option.some.inj hg
        exact rf_zret C hE (by decide) (by decide +kernel)
      · replace hg := (if_neg hc).symm.trans hg
        refine rf_seg C [(.iload 0, 1), (.iconst 43, 2)] (pc' := 21) (S' := ([(0, .int a0)], [.int 43, .int a0], rf_MM w m)) (by decide +kernel) rfl trivial ?_
        refine rf_icmp_eq C 27 48 (by decide +kernel) (fun hc => ?_) (fun hc => ?_)
        · replace hg := (if_pos hc).symm.trans hg
          refine rf_seg C [(.iconst 1, 1)] (pc' := 49) (S' := ([(0, .int a0)], [.int 1], rf_MM w m)) (by decide +kernel) rfl trivial ?_
          refine rf_goto C 4 53 (by decide +kernel) ?_
          obtain rfl := Option.some.inj hg
          exact rf_zret C hE (by decide) (by decide +kernel)
        · replace hg := (if_neg hc).symm.trans hg
          refine rf_seg C [(.iload 0, 1), (.iconst 45, 2)] (pc' := 27) (S' := ([(0, .int a0)], [.int 45, .int a0], rf_MM w m)) (by decide +kernel) rfl trivial ?_
          refine rf_icmp_eq C 21 48 (by decide +kernel) (fun hc => ?_) (fun hc => ?_)
          · replace hg := (if_pos hc).symm.trans hg
            refine rf_seg C [(.iconst 1, 1)] (pc' := 49) (S' := ([(0, .int a0)], [.int 1], rf_MM w m)) (by decide +kernel) rfl trivial ?_
            refine rf_goto C 4 53 (by decide +kernel) ?_
            obtain rfl := Option.some.inj hg
            exact rf_zret C hE (by decide) (by decide +kernel)
          · replace hg := (if_neg hc).symm.trans hg
            refine rf_seg C [(.iload 0, 1), (.iconst 42, 2)] (pc' := 33) (S' := ([(0, .int a0)], [.int 42, .int a0], rf_MM w m)) (by decide +kernel) rfl trivial ?_
            refine rf_icmp_eq C 15 48 (by decide +kernel) (fun hc => ?_) (fun hc => ?_)
            · replace hg := (if_pos hc).symm.trans hg
              refine rf_seg C [(.iconst 1, 1)] (pc' := 49) (S' := ([(0, .int a0)], [.int 1], rf_MM w m)) (by decide +kernel) rfl trivial ?_
              refine rf_goto C 4 53 (by decide +kernel) ?_
              obtain rfl := Option.some.inj hg
              exact rf_zret C hE (by decide) (by decide +kernel)
            · replace hg := (if_neg hc).symm.trans hg
              refine rf_seg C [(.iload 0, 1), (.iconst 40, 2)] (pc' := 39) (S' := ([(0, .int a0)], [.int 40, .int a0], rf_MM w m)) (by decide +kernel) rfl trivial ?_
              refine rf_icmp_eq C 9 48 (by decide +kernel) (fun hc => ?_) (fun hc => ?_)
              · replace hg := (if_pos hc).symm.trans hg
                refine rf_seg C [(.iconst 1, 1)] (pc' := 49) (S' := ([(0, .int a0)], [.int 1], rf_MM w m)) (by decide +kernel) rfl trivial ?_
                refine rf_goto C 4 53 (by decide +kernel) ?_
                obtain rfl := Option.some.inj hg
                exact rf_zret C hE (by decide) (by decide +kernel)
              · replace hg := (if_neg hc).symm.trans hg
                refine rf_seg C [(.iload 0, 1), (.iconst 41, 2)] (pc' := 45) (S' := ([(0, .int a0)], [.int 41, .int a0], rf_MM w m)) (by decide +kernel) rfl trivial ?_
                refine rf_icmp_ne C 7 52 (by decide +kernel) (fun hc => ?_) (fun hc => ?_)
                · replace hg := (if_neg hc).symm.trans hg
                  refine rf_seg C [(.iconst 0, 1)] (pc' := 53) (S' := ([(0, .int a0)], [.int 0], rf_MM w m)) (by decide +kernel) rfl trivial ?_
                  obtain rfl := Option.some.inj hg
                  exact rf_zret C hE (by decide) (by decide +kernel)
                · replace hg := (if_pos hc).symm.trans hg
                  refine rf_seg C [(.iconst 1, 1)] (pc' := 49) (S' := ([(0, .int a0)], [.int 1], rf_MM w m)) (by decide +kernel) rfl trivial ?_
                  refine rf_goto C 4 53 (by decide +kernel) ?_
                  obtain rfl := Option.some.inj hg
                  exact rf_zret C hE (by decide) (by decide +kernel)
-- X14_next
abbrev j_X14_next : rf_J := (14, yX14_next, cX14_next, 3, none)
theorem mw_X14_next : rf_mv j_X14_next (rf_R 14) 0 := ⟨⟨rf_mem 47 (by decide +kernel), rf_mem 47 (by decide +kernel), rf_mem 0 (by decide +kernel), rf_mem 47 (by decide +kernel)⟩, by decide +kernel, by decide⟩
def g_X14_next_212 (w : rf_w) (rec169 : Int32 → rf_m → Option (rf_m)) (a2 : Int32) (m : rf_m) : Option (rf_m) := rec169 (a2 + 1) (rf_i m 206 46 ((m.1 206 46) + 1))
def g_X14_next_169_b (w : rf_w) (rec169 : Int32 → rf_m → Option (rf_m)) (a2 : Int32) (m : rf_m) : Option (rf_m) := rf_b (g_X14_byteAt w m (m.1 206 46)) fun y0 m0 => rf_b (g_X14_isDigit w m0 y0) fun y1 m1 => (if y1 = 0 then (if 8 ≤ a2 then some m1 else some (rf_i m1 206 47 3)) else (if 7 ≤ a2 then g_X14_next_212 w rec169 a2 m1 else rf_b (g_X14_byteAt w m1 (m1.1 206 46)) fun y2 m2 => g_X14_next_212 w rec169 a2 (rf_i m2 206 50 (((10 * (m1.1 206 50)) + y2) - 48))))
def g_X14_next_169 (w : rf_w) : Nat → Int32 → rf_m → Option (rf_m)
  | 0, _, _ => none
  | n + 1, a2, m => g_X14_next_169_b w (g_X14_next_169 w n) a2 m
def g_X14_next_127 (w : rf_w) (rec80 : Int32 → rf_m → Option (rf_m)) (a2 : Int32) (m : rf_m) : Option (rf_m) := rec80 (a2 + 1) (rf_i m 206 46 ((m.1 206 46) + 1))
def g_X14_next_80_b (w : rf_w) (rec80 : Int32 → rf_m → Option (rf_m)) (a2 : Int32) (m : rf_m) : Option (rf_m) := rf_b (g_X14_byteAt w m (m.1 206 46)) fun y0 m0 => rf_b (g_X14_isLetter w m0 y0) fun y1 m1 => (if y1 = 0 then (if 8 < a2 then some m1 else some (rf_i m1 206 47 2)) else (if 8 ≤ a2 then g_X14_next_127 w rec80 a2 m1 else rf_b (g_X14_byteAt w m1 (m1.1 206 46)) fun y2 m2 => g_X14_next_127 w rec80 a2 (rf_l m2 206 53 ((32 * (m1.2 206 53)) + (Int32.toInt64 ((y2 - 97) + 1))))))
def g_X14_next_80 (w : rf_w) : Nat → Int32 → rf_m → Option (rf_m)
  | 0, _, _ => none
  | n + 1, a2, m => g_X14_next_80_b w (g_X14_next_80 w n) a2 m
def g_X14_next_0_b (w : rf_w) (rec0 : rf_m → Option (rf_m)) (m : rf_m) : Option (rf_m) := rf_b (g_X14_byteAt w m (m.1 206 46)) fun y0 m0 => (if y0 = 32 then rec0 (rf_i m0 206 46 ((m0.1 206 46) + 1)) else rf_b (g_X14_byteAt w (rf_i (rf_i (rf_i m0 206 48 (m0.1 206 46)) 206 47 0) 206 49 0) ((rf_i (rf_i (rf_i m0 206 48 (m0.1 206 46)) 206 47 0) 206 49 0).1 206 46)) fun y1 m1 => (if y1 = ((-1)) then some (rf_i m1 206 47 1) else rf_b (g_X14_isLetter w m1 y1) fun y2 m2 => (if y2 = 0 then rf_b (g_X14_isDigit w m2 y1) fun y3 m3 => (if y3 = 0 then rf_b (g_X14_isMarkByte w m3 y1) fun y4 m4 => (if y4 = 0 then some m4 else some (rf_i (rf_i (rf_i m4 206 47 4) 206 49 y1) 206 46 (((rf_i (rf_i m4 206 47 4) 206 49 y1).1 206 46) + 1))) else g_X14_next_169 w rf_fuel 0 (rf_i m3 206 50 0)) else g_X14_next_80 w rf_fuel 0 (rf_l m2 206 53 0))))
def g_X14_next_0 (w : rf_w) : Nat → rf_m → Option (rf_m)
  | 0, _ => none
  | n + 1, m => g_X14_next_0_b w (g_X14_next_0 w n) m
def g_X14_next (w : rf_w) (m : rf_m) : Option (rf_m) := g_X14_next_0 w rf_fuel m
theorem s_X14_next_212 {w : rf_w} {K : rf_K} {r : rf_m} (C : rf_Ctx 14 cX14_next 3 2 (rf_sh w) K) (hE : rf_End none K (rf_sh w) 0 0 none (rf_MM w r)) {rec169 : Int32 → rf_m → Option (rf_m)} (hr169 : ∀ (a2 : Int32) (m : rf_m), rec169 a2 m = some r → rf_V 3 (rf_sh w) K 0 0 169 ([(0, .ref 206), (2, .int a2)], [], rf_MM w m)) (a2 : Int32) (m : rf_m) (hg : g_X14_next_212 w rec169 a2 m = some r) : rf_V 3 (rf_sh w) K 0 0 212 ([(0, .ref 206), (2, .int a2)], [], rf_MM w m) := by
  unfold g_X14_next_212 at hg
  refine rf_seg C [(.iinc 2 1, 3), (.aload 0, 1), (.dup, 1), (.invokeinterface 14 46, 3), (.iconst 1, 1), (.iadd, 1), (.multianewarray 14 46, 3)] (pc' := 225) (S' := ([(2, .int (a2 + 1)), (0, .ref 206)], [], rf_MM w (rf_i m 206 46 ((m.1 206 46) + 1)))) (by decide +kernel) rfl trivial ?_
  refine rf_goto C (-56) 169 (by decide +kernel) ?_
  refine rf_few [1, 0] rfl ?_
  exact hr169 (a2 + 1) (rf_i m 206 46 ((m.1 206 46) + 1)) hg
theorem s_X14_next_169_b {w : rf_w} {K : rf_K} {r : rf_m} (C : rf_Ctx 14 cX14_next 3 2 (rf_sh w) K) (hE : rf_End none K (rf_sh w) 0 0 none (rf_MM w r)) {rec169 : Int32 → rf_m → Option (rf_m)} (hr169 : ∀ (a2 : Int32) (m : rf_m), rec169 a2 m = some r → rf_V 3 (rf_sh w) K 0 0 169 ([(0, .ref 206), (2, .int a2)], [], rf_MM w m)) (a2 : Int32) (m : rf_m) (hg : g_X14_next_169_b w rec169 a2 m = some r) : rf_V 3 (rf_sh w) K 0 0 169 ([(0, .ref 206), (2, .int a2)], [], rf_MM w m) := by
  unfold g_X14_next_169_b at hg
  refine rf_seg C [(.aload 0, 1), (.aload 0, 1), (.invokeinterface 14 46, 3)] (pc' := 174) (S' := ([(0, .ref 206), (2, .int a2)], [.int (m.1 206 46), .ref 206], rf_MM w m)) (by decide +kernel) rfl trivial ?_
  obtain ⟨y0, m0, hc0, hg⟩ := rf_b_some hg
  refine rf_callv C rf_fit0 j_X14_byteAt (ci := 14) (As := [.int (m.1 206 46)]) (rest := []) mw_X14_byteAt (c_X14_byteAt hc0) (by decide) rfl (by decide) lk_14_511 rfl rfl (Nat.le_of_ble_eq_true rfl) (by decide +kernel) ?_
  show rf_V 3 (rf_sh w) K 0 0 177 ([(0, .ref 206), (2, .int a2)], [.int y0], rf_MM w m0)
  obtain ⟨y1, m1, hc1, hg⟩ := rf_b_some hg
  refine rf_calls C rf_fit0 j_X14_isDigit (As := [.int y0]) (rest := []) mw_X14_isDigit (c_X14_isDigit hc1) (by decide) lk_14_526 rfl rfl (Nat.le_of_ble_eq_true rfl) (by decide +kernel) ?_
  show rf_V 3 (rf_sh w) K 0 0 180 ([(0, .ref 206), (2, .int a2)], [.int y1], rf_MM w m1)
  refine rf_if_eq C 48 228 (by decide +kernel) (fun hc => ?_) (fun hc => ?_)
  · replace hg := (if_pos hc).symm.trans hg
    refine rf_seg C [(.iload 2, 1), (.iconst 8, 2)] (pc' := 231) (S' := ([(0, .ref 206), (2, .int a2)], [.int 8, .int a2], rf_MM w m1)) (by decide +kernel) rfl trivial ?_
    refine rf_icmp_ge C 38 269 (by decide +kernel) (fun hc => ?_) (fun hc => ?_)
    · replace hg := (if_pos hc).symm.trans hg
      obtain rfl := Option.some.inj hg
      exact rf_vret C hE (by decide +kernel)
    · replace hg := (if_neg hc).symm.trans hg
      refine rf_seg C [(.aload 0, 1), (.iconst 3, 1), (.multianewarray 14 47, 3)] (pc' := 239) (S' := ([(0, .ref 206), (2, .int a2)], [], rf_MM w (rf_i m1 206 47 3))) (by decide +kernel) rfl trivial ?_
      refine rf_goto C 30 269 (by decide +kernel) ?_
      obtain rfl := Option.some.inj hg
      exact rf_vret C hE (by decide +kernel)
  · replace hg := (if_neg hc).symm.trans hg
    refine rf_seg C [(.iload 2, 1), (.iconst 7, 2)] (pc' := 186) (S' := ([(0, .ref 206), (2, .int a2)], [.int 7, .int a2], rf_MM w m1)) (by decide +kernel) rfl trivial ?_
    refine rf_icmp_ge C 26 212 (by decide +kernel) (fun hc => ?_) (fun hc => ?_)
    · replace hg := (if_pos hc).symm.trans hg
      refine rf_few [0, 1] rfl ?_
      exact s_X14_next_212 C hE hr169 a2 m1 hg
    · replace hg := (if_neg hc).symm.trans hg
      refine rf_seg C [(.aload 0, 1), (.iconst 10, 2), (.aload 0, 1), (.invokeinterface 14 50, 3), (.imul, 1), (.aload 0, 1), (.aload 0, 1), (.invokeinterface 14 46, 3)] (pc' := 202) (S' := ([(0, .ref 206), (2, .int a2)], [.int (m1.1 206 46), .ref 206, .int (10 * (m1.1 206 50)), .ref 206], rf_MM w m1)) (by decide +kernel) rfl trivial ?_
      obtain ⟨y2, m2, hc2, hg⟩ := rf_b_some hg
      refine rf_callv C rf_fit0 j_X14_byteAt (ci := 14) (As := [.int (m1.1 206 46)]) (rest := [.int (10 * (m1.1 206 50)), .ref 206]) mw_X14_byteAt (c_X14_byteAt hc2) (by decide) rfl (by decide) lk_14_511 rfl rfl (Nat.le_of_ble_eq_true rfl) (by decide +kernel) ?_
      show rf_V 3 (rf_sh w) K 0 0 205 ([(0, .ref 206), (2, .int a2)], [.int y2, .int (10 * (m1.1 206 50)), .ref 206], rf_MM w m2)
      refine rf_seg C [(.iadd, 1), (.iconst 48, 2), (.isub, 1), (.multianewarray 14 50, 3)] (pc' := 212) (S' := ([(0, .ref 206), (2, .int a2)], [], rf_MM w (rf_i m2 206 50 (((10 * (m1.1 206 50)) + y2) - 48)))) (by decide +kernel) rfl trivial ?_
      refine rf_few [0, 1] rfl ?_
      exact s_X14_next_212 C hE hr169 a2 (rf_i m2 206 50 (((10 * (m1.1 206 50)) + y2) - 48)) hg
theorem s_X14_next_169 {w : rf_w} {K : rf_K} {r : rf_m} (C : rf_Ctx 14 cX14_next 3 2 (rf_sh w) K) (hE : rf_End none K (rf_sh w) 0 0 none (rf_MM w r)) (n : Nat) : ∀ (a2 : Int32) (m : rf_m), g_X14_next_169 w n a2 m = some r → rf_V 3 (rf_sh w) K 0 0 169 ([(0, .ref 206), (2, .int a2)], [], rf_MM w m) := by
  induction n with
  | zero => intro a2 m hg; cases hg
  | succ n ih => intro a2 m hg; exact s_X14_next_169_b C hE ih a2 m hg
theorem s_X14_next_127 {w : rf_w} {K : rf_K} {r : rf_m} (C : rf_Ctx 14 cX14_next 3 2 (rf_sh w) K) (hE : rf_End none K (rf_sh w) 0 0 none (rf_MM w r)) {rec80 : Int32 → rf_m → Option (rf_m)} (hr80 : ∀ (a2 : Int32) (m : rf_m), rec80 a2 m = some r → rf_V 3 (rf_sh w) K 0 0 80 ([(0, .ref 206), (2, .int a2)], [], rf_MM w m)) (a2 : Int32) (m : rf_m) (hg : g_X14_next_127 w rec80 a2 m = some r) : rf_V 3 (rf_sh w) K 0 0 127 ([(0, .ref 206), (2, .int a2)], [], rf_MM w m) := by
  unfold g_X14_next_127 at hg
  refine rf_seg C [(.iinc 2 1, 3), (.aload 0, 1), (.dup, 1), (.invokeinterface 14 46, 3), (.iconst 1, 1), (.iadd, 1), (.multianewarray 14 46, 3)] (pc' := 140) (S' := ([(2, .int (a2 + 1)), (0, .ref 206)], [], rf_MM w (rf_i m 206 46 ((m.1 206 46) + 1)))) (by decide +kernel) rfl trivial ?_
  refine rf_goto C (-60) 80 (by decide +kernel) ?_
  refine rf_few [1, 0] rfl ?_
  exact hr80 (a2 + 1) (rf_i m 206 46 ((m.1 206 46) + 1)) hg
theorem s_X14_next_80_b {w : rf_w} {K : rf_K} {r : rf_m} (C : rf_Ctx 14 cX14_next 3 2 (rf_sh w) K) (hE : rf_End none K (rf_sh w) 0 0 none (rf_MM w r)) {rec80 : Int32 → rf_m → Option (rf_m)} (hr80 : ∀ (a2 : Int32) (m : rf_m), rec80 a2 m = some r → rf_V 3 (rf_sh w) K 0 0 80 ([(0, .ref 206), (2, .int a2)], [], rf_MM w m)) (a2 : Int32) (m : rf_m) (hg : g_X14_next_80_b w rec80 a2 m = some r) : rf_V 3 (rf_sh w) K 0 0 80 ([(0, .ref 206), (2, .int a2)], [], rf_MM w m) := by
  unfold g_X14_next_80_b at hg
  refine rf_seg C [(.aload 0, 1), (.aload 0, 1), (.invokeinterface 14 46, 3)] (pc' := 85) (S' := ([(0, .ref 206), (2, .int a2)], [.int (m.1 206 46), .ref 206], rf_MM w m)) (by decide +kernel) rfl trivial ?_
  obtain ⟨y0, m0, hc0, hg⟩ := rf_b_some hg
  refine rf_callv C rf_fit0 j_X14_byteAt (ci := 14) (As := [.int (m.1 206 46)]) (rest := []) mw_X14_byteAt (c_X14_byteAt hc0) (by decide) rfl (by decide) lk_14_511 rfl rfl (Nat.le_of_ble_eq_true rfl) (by decide +kernel) ?_
  show rf_V 3 (rf_sh w) K 0 0 88 ([(0, .ref 206), (2, .int a2)], [.int y0], rf_MM w m0)
  obtain ⟨y1, m1, hc1, hg⟩ := rf_b_some hg
  refine rf_calls C rf_fit0 j_X14_isLetter (As := [.int y0]) (rest := []) mw_X14_isLetter (c_X14_isLetter hc1) (by decide) lk_14_520 rfl rfl (Nat.le_of_ble_eq_true rfl) (by decide +kernel) ?_
  show rf_V 3 (rf_sh w) K 0 0 91 ([(0, .ref 206), (2, .int a2)], [.int y1], rf_MM w m1)
  refine rf_if_eq C 52 143 (by decide +kernel) (fun hc => ?_) (fun hc => ?_)
  · replace hg := (if_pos hc).symm.trans hg
    refine rf_seg C [(.iload 2, 1), (.iconst 8, 2)] (pc' := 146) (S' := ([(0, .ref 206), (2, .int a2)], [.int 8, .int a2], rf_MM w m1)) (by decide +kernel) rfl trivial ?_
    refine rf_icmp_gt C 123 269 (by decide +kernel) (fun hc => ?_) (fun hc => ?_)
    · replace hg := (if_pos hc).symm.trans hg
      obtain rfl := Option.some.inj hg
      exact rf_vret C hE (by decide +kernel)
    · replace hg := (if_neg hc).symm.trans hg
      refine rf_seg C [(.aload 0, 1), (.iconst 2, 1), (.multianewarray 14 47, 3)] (pc' := 154) (S' := ([(0, .ref 206), (2, .int a2)], [], rf_MM w (rf_i m1 206 47 2))) (by decide +kernel) rfl trivial ?_
      refine rf_goto C 115 269 (by decide +kernel) ?_
      obtain rfl := Option.some.inj hg
      exact rf_vret C hE (by decide +kernel)
  · replace hg := (if_neg hc).symm.trans hg
    refine rf_seg C [(.iload 2, 1), (.iconst 8, 2)] (pc' := 97) (S' := ([(0, .ref 206), (2, .int a2)], [.int 8, .int a2], rf_MM w m1)) (by decide +kernel) rfl trivial ?_
    refine rf_icmp_ge C 30 127 (by decide +kernel) (fun hc => ?_) (fun hc => ?_)
    · replace hg := (if_pos hc).symm.trans hg
      refine rf_few [0, 1] rfl ?_
      exact s_X14_next_127 C hE hr80 a2 m1 hg
    · replace hg := (if_neg hc).symm.trans hg
      refine rf_seg C [(.aload 0, 1), (.goto_w 32, 3), (.aload 0, 1), (.invokeinterface 14 53, 3), (.lmul, 1), (.aload 0, 1), (.aload 0, 1), (.invokeinterface 14 46, 3)] (pc' := 114) (S' := ([(0, .ref 206), (2, .int a2)], [.int (m1.1 206 46), .ref 206, .long (32 * (m1.2 206 53)), .ref 206], rf_MM w m1)) (by decide +kernel) rfl trivial ?_
      obtain ⟨y2, m2, hc2, hg⟩ := rf_b_some hg
      refine rf_callv C rf_fit0 j_X14_byteAt (ci := 14) (As := [.int (m1.1 206 46)]) (rest := [.long (32 * (m1.2 206 53)), .ref 206]) mw_X14_byteAt (c_X14_byteAt hc2) (by decide) rfl (by decide) lk_14_511 rfl rfl (Nat.le_of_ble_eq_true rfl) (by decide +kernel) ?_
      show rf_V 3 (rf_sh w) K 0 0 117 ([(0, .ref 206), (2, .int a2)], [.int y2, .long (32 * (m1.2 206 53)), .ref 206], rf_MM w m2)
      refine rf_seg C [(.iconst 97, 2), (.isub, 1), (.iconst 1, 1), (.iadd, 1), (.i2l, 1), (.ladd, 1), (.multianewarray 14 53, 3)] (pc' := 127) (S' := ([(0, .ref 206), (2, .int a2)], [], rf_MM w (rf_l m2 206 53 ((32 * (m1.2 206 53)) + (Int32.toInt64 ((y2 - 97) + 1)))))) (by decide +kernel) rfl trivial ?_
      refine rf_few [0, 1] rfl ?_
      exact s_X14_next_127 C hE hr80 a2 (rf_l m2 206 53 ((32 * (m1.2 206 53)) + (Int32.toInt64 ((y2 - 97) + 1)))) hg
theorem s_X14_next_80 {w : rf_w} {K : rf_K} {r : rf_m} (C : rf_Ctx 14 cX14_next 3 2 (rf_sh w) K) (hE : rf_End none K (rf_sh w) 0 0 none (rf_MM w r)) (n : Nat) : ∀ (a2 : Int32) (m : rf_m), g_X14_next_80 w n a2 m = some r → rf_V 3 (rf_sh w) K 0 0 80 ([(0, .ref 206), (2, .int a2)], [], rf_MM w m) := by
  induction n with
  | zero => intro a2 m hg; cases hg
  | succ n ih => intro a2 m hg; exact s_X14_next_80_b C hE ih a2 m hg
theorem s_X14_next_0_b {w : rf_w} {K : rf_K} {r : rf_m} (C : rf_Ctx 14 cX14_next 3 2 (rf_sh w) K) (hE : rf_End none K (rf_sh w) 0 0 none (rf_MM w r)) {rec0 : rf_m → Option (rf_m)} (hr0 : ∀ (m : rf_m), rec0 m = some r → rf_V 3 (rf_sh w) K 0 0 0 ([(0, .ref 206)], [], rf_MM w m)) (m : rf_m) (hg : g_X14_next_0_b w rec0 m = some r) : rf_V 3 (rf_sh w) K 0 0 0 ([(0, .ref 206)], [], rf_MM w m) := by
  unfold g_X14_next_0_b at hg
  refine rf_seg C [(.aload 0, 1), (.aload 0, 1), (.invokeinterface 14 46, 3)] (pc' := 5) (S' := ([(0, .ref 206)], [.int (m.1 206 46), .ref 206], rf_MM w m)) (by decide +kernel) rfl trivial ?_
  obtain ⟨y0, m0, hc0, hg⟩ := rf_b_some hg
  refine rf_callv C rf_fit0 j_X14_byteAt (ci := 14) (As := [.int (m.1 206 46)]) (rest := []) mw_X14_byteAt (c_X14_byteAt hc0) (by decide) rfl (by decide) lk_14_511 rfl rfl (Nat.le_of_ble_eq_true rfl) (by decide +kernel) ?_
  show rf_V 3 (rf_sh w) K 0 0 8 ([(0, .ref 206)], [.int y0], rf_MM w m0)
  refine rf_seg C [(.iconst 32, 2)] (pc' := 10) (S' := ([(0, .ref 206)], [.int 32, .int y0], rf_MM w m0)) (by decide +kernel) rfl trivial ?_
  refine rf_icmp_ne C 16 26 (by decide +kernel) (fun hc => ?_) (fun hc => ?_)
  · replace hg := (if_neg hc).symm.trans hg
    refine rf_seg C [(.aload 0, 1), (.aload 0, 1), (.invokeinterface 14 46, 3), (.multianewarray 14 48, 3), (.aload 0, 1), (.iconst 0, 1), (.multianewarray 14 47, 3), (.aload 0, 1), (.iconst 0, 1), (.multianewarray 14 49, 3), (.aload 0, 1), (.aload 0, 1), (.invokeinterface 14 46, 3)] (pc' := 49) (S' := ([(0, .ref 206)], [.int ((rf_i (rf_i (rf_i m0 206 48 (m0.1 206 46)) 206 47 0) 206 49 0).1 206 46), .ref 206], rf_MM w (rf_i (rf_i (rf_i m0 206 48 (m0.1 206 46)) 206 47 0) 206 49 0))) (by decide +kernel) rfl trivial ?_
    obtain ⟨y1, m1, hc1, hg⟩ := rf_b_some hg
    refine rf_callv C rf_fit0 j_X14_byteAt (ci := 14) (As := [.int ((rf_i (rf_i (rf_i m0 206 48 (m0.1 206 46)) 206 47 0) 206 49 0).1 206 46)]) (rest := []) mw_X14_byteAt (c_X14_byteAt hc1) (by decide) rfl (by decide) lk_14_511 rfl rfl (Nat.le_of_ble_eq_true rfl) (by decide +kernel) ?_
    show rf_V 3 (rf_sh w) K 0 0 52 ([(0, .ref 206)], [.int y1], rf_MM w m1)
    refine rf_seg C [(.istore 1, 1), (.iconst 0, 1), (.istore 2, 1), (.iload 1, 1), (.iconst (-1), 1)] (pc' := 57) (S' := ([(2, .int 0), (1, .int y1), (0, .ref 206)], [.int ((-1)), .int y1], rf_MM w m1)) (by decide +kernel) rfl trivial ?_
    refine rf_icmp_ne C 11 68 (by decide +kernel) (fun hc => ?_) (fun hc => ?_)
    · replace hg := (if_neg hc).symm.trans hg
      refine rf_seg C [(.iload 1, 1)] (pc' := 69) (S' := ([(2, .int 0), (1, .int y1), (0, .ref 206)], [.int y1], rf_MM w m1)) (by decide +kernel) rfl trivial ?_
      obtain ⟨y2, m2, hc2, hg⟩ := rf_b_some hg
      refine rf_calls C rf_fit0 j_X14_isLetter (As := [.int y1]) (rest := []) mw_X14_isLetter (c_X14_isLetter hc2) (by decide) lk_14_520 rfl rfl (Nat.le_of_ble_eq_true rfl) (by decide +kernel) ?_
      show rf_V 3 (rf_sh w) K 0 0 72 ([(2, .int 0), (1, .int y1), (0, .ref 206)], [.int y2], rf_MM w m2)
      refine rf_if_eq C 85 157 (by decide +kernel) (fun hc => ?_) (fun hc => ?_)
      · replace hg := (if_pos hc).symm.trans hg
        refine rf_seg C [(.iload 1, 1)] (pc' := 158) (S' := ([(2, .int 0), (1, .int y1), (0, .ref 206)], [.int y1], rf_MM w m2)) (by decide +kernel) rfl trivial ?_
        obtain ⟨y3, m3, hc3, hg⟩ := rf_b_some hg
        refine rf_calls C rf_fit0 j_X14_isDigit (As := [.int y1]) (rest := []) mw_X14_isDigit (c_X14_isDigit hc3) (by decide) lk_14_526 rfl rfl (Nat.le_of_ble_eq_true rfl) (by decide +kernel) ?_
        show rf_V 3 (rf_sh w) K 0 0 161 ([(2, .int 0), (1, .int y1), (0, .ref 206)], [.int y3], rf_MM w m3)
        refine rf_if_eq C 81 242 (by decide +kernel) (fun hc => ?_) (fun hc => ?_)
        · replace hg := (if_pos hc).symm.trans hg
          refine rf_seg C [(.iload 1, 1)] (pc' := 243) (S' := ([(2, .int 0), (1, .int y1), (0, .ref 206)], [.int y1], rf_MM w m3)) (by decide +kernel) rfl trivial ?_
          obtain ⟨y4, m4, hc4, hg⟩ := rf_b_some hg
          refine rf_calls C rf_fit0 j_X14_isMarkByte (As := [.int y1]) (rest := []) mw_X14_isMarkByte (c_X14_isMarkByte hc4) (by decide) lk_14_532 rfl rfl (Nat.le_of_ble_eq_true rfl) (by decide +kernel) ?_
          show rf_V 3 (rf_sh w) K 0 0 246 ([(2, .int 0), (1, .int y1), (0, .ref 206)], [.int y4], rf_MM w m4)
          refine rf_if_eq C 23 269 (by decide +kernel) (fun hc => ?_) (fun hc => ?_)
          · replace hg := (if_pos hc).symm.trans hg
            obtain rfl := Option.some.inj hg
            exact rf_vret C hE (by decide +kernel)
          · replace hg := (if_neg hc).symm.trans hg
            refine rf_seg C [(.aload 0, 1), (.iconst 4, 1), (.multianewarray 14 47, 3), (.aload 0, 1), (.iload 1, 1), (.multianewarray 14 49, 3), (.aload 0, 1), (.dup, 1), (.invokeinterface 14 46, 3), (.iconst 1, 1), (.iadd, 1), (.multianewarray 14 46, 3)] (pc' := 269) (S' := ([(2, .int 0), (1, .int y1), (0, .ref 206)], [], rf_MM w (rf_i (rf_i (rf_i m4 206 47 4) 206 49 y1) 206 46 (((rf_i (rf_i m4 206 47 4) 206 49 y1).1 206 46) + 1)))) (by decide +kernel) rfl trivial ?_
            obtain rfl := Option.some.inj hg
            exact rf_vret C hE (by decide +kernel)
        · replace hg := (if_neg hc).symm.trans hg
          refine rf_seg C [(.aload 0, 1), (.iconst 0, 1), (.multianewarray 14 50, 3)] (pc' := 169) (S' := ([(2, .int 0), (1, .int y1), (0, .ref 206)], [], rf_MM w (rf_i m3 206 50 0))) (by decide +kernel) rfl trivial ?_
          refine rf_few [2, 0] rfl ?_
          exact s_X14_next_169 C hE rf_fuel 0 (rf_i m3 206 50 0) hg
      · replace hg := (if_neg hc).symm.trans hg
        refine rf_seg C [(.aload 0, 1), (.goto_w 0, 1), (.multianewarray 14 53, 3)] (pc' := 80) (S' := ([(2, .int 0), (1, .int y1), (0, .ref 206)], [], rf_MM w (rf_l m2 206 53 0))) (by decide +kernel) rfl trivial ?_
        refine rf_few [2, 0] rfl ?_
        exact s_X14_next_80 C hE rf_fuel 0 (rf_l m2 206 53 0) hg
    · replace hg := (if_pos hc).symm.trans hg
      refine rf_seg C [(.aload 0, 1), (.iconst 1, 1), (.multianewarray 14 47, 3)] (pc' := 65) (S' := ([(2, .int 0), (1, .int y1), (0, .ref 206)], [], rf_MM w (rf_i m1 206 47 1))) (by decide +kernel) rfl trivial ?_
      refine rf_goto C 204 269 (by decide +kernel) ?_
      obtain rfl := Option.some.inj hg
      exact rf_vret C hE (by decide +kernel)
  · replace hg := (if_pos hc).symm.trans hg
    refine rf_seg C [(.aload 0, 1), (.dup, 1), (.invokeinterface 14 46, 3), (.iconst 1, 1), (.iadd, 1), (.multianewarray 14 46, 3)] (pc' := 23) (S' := ([(0, .ref 206)], [], rf_MM w (rf_i m0 206 46 ((m0.1 206 46) + 1)))) (by decide +kernel) rfl trivial ?_
    refine rf_goto C (-23) 0 (by decide +kernel) ?_
    refine rf_few [0] rfl ?_
    exact hr0 (rf_i m0 206 46 ((m0.1 206 46) + 1)) hg
theorem s_X14_next_0 {w : rf_w} {K : rf_K} {r : rf_m} (C : rf_Ctx 14 cX14_next 3 2 (rf_sh w) K) (hE : rf_End none K (rf_sh w) 0 0 none (rf_MM w r)) (n : Nat) : ∀ (m : rf_m), g_X14_next_0 w n m = some r → rf_V 3 (rf_sh w) K 0 0 0 ([(0, .ref 206)], [], rf_MM w m) := by
  induction n with
  | zero => intro m hg; cases hg
  | succ n ih => intro m hg; exact s_X14_next_0_b C hE ih m hg
theorem c_X14_next {w : rf_w} {m : rf_m} {r : rf_m} (hg : g_X14_next w m = some r) : rf_Con j_X14_next 2 (rf_sh w) [.ref 206] (rf_MM w m) none (rf_MM w r) := by
  refine rf_con j_X14_next 2 ⟨by decide +kernel, rfl, Nat.le_of_ble_eq_true rfl⟩ (fun K C hE => ?_)
  unfold g_X14_next at hg
  show rf_V 3 (rf_sh w) K 0 0 0 ([(0, .ref 206)], [], rf_MM w m)
  refine rf_few [0] rfl ?_
  exact s_X14_next_0 C hE rf_fuel m hg
-- X14_is
abbrev j_X14_is : rf_J := (14, yX14_is, cX14_is, 2, (some .boolean))
theorem mw_X14_is : rf_mv j_X14_is (rf_R 14) 1 := ⟨⟨rf_mem 49 (by decide +kernel), rf_mem 49 (by decide +kernel), rf_mem 0 (by decide +kernel), rf_mem 50 (by decide +kernel)⟩, by decide +kernel, by decide⟩
def g_X14_is (w : rf_w) (m : rf_m) (a1 : Int32) : Option (Int32 × rf_m) := (if (m.1 206 47) = 4 then (if (m.1 206 49) = a1 then some (1, m) else some (0, m)) else some (0, m))
theorem c_X14_is {w : rf_w} {m : rf_m} {a1 : Int32} {r : Int32 × rf_m} (hg : g_X14_is w m a1 = some r) : rf_Con j_X14_is 1 (rf_sh w) [.ref 206, .int a1] (rf_MM w m) (some (.int r.1)) (rf_MM w r.2) := by
  refine rf_con j_X14_is 1 ⟨by decide +kernel, rfl, Nat.le_of_ble_eq_true rfl⟩ (fun K C hE => ?_)
  unfold g_X14_is at hg
  show rf_V 2 (rf_sh w) K 0 0 0 ([(0, .ref 206), (1, .int a1)], [], rf_MM w m)
  refine rf_seg C [(.aload 0, 1), (.invokeinterface 14 47, 3), (.iconst 4, 1)] (pc' := 5) (S' := ([(0, .ref 206), (1, .int a1)], [.int 4, .int (m.1 206 47)], rf_MM w m)) (by decide +kernel) rfl trivial ?_
  refine rf_icmp_ne C 15 20 (by decide +kernel) (fun hc => ?_) (fun hc => ?_)
  · replace hg := (if_neg hc).symm.trans hg
    refine rf_seg C [(.iconst 0, 1)] (pc' := 21) (S' := ([(0, .ref 206), (1, .int a1)], [.int 0], rf_MM w m)) (by decide +kernel) rfl trivial ?_
    obtain rfl := Option.some.inj hg
    exact rf_zret C hE (by decide) (by decide +kernel)
  · replace hg := (if_pos hc).symm.trans hg
    refine rf_seg C [(.aload 0, 1), (.invokeinterface 14 49, 3), (.iload 1, 1)] (pc' := 13) (S' := ([(0, .ref 206), (1, .int a1)], [.int a1, .int (m.1 206 49)], rf_MM w m)) (by decide +kernel) rfl trivial ?_
    refine rf_icmp_ne C 7 20 (by decide +kernel) (fun hc => ?_) (fun hc => ?_)
    · replace hg := (if_neg hc).symm.trans hg
      refine rf_seg C [(.iconst 0, 1)] (pc' := 21) (S' := ([(0, .ref 206), (1, .int a1)], [.int 0], rf_MM w m)) (by decide +kernel) rfl trivial ?_
      obtain rfl := Option.some.inj hg
      exact rf_zret C hE (by decide) (by decide +kernel)
    · replace hg := (if_pos hc).symm.trans hg
      refine rf_seg C [(.iconst 1, 1)] (pc' := 17) (S' := ([(0, .ref 206), (1, .int a1)], [.int 1], rf_MM w m)) (by decide +kernel) rfl trivial ?_
      refine rf_goto C 4 21 (by decide +kernel) ?_
      obtain rfl := Option.some.inj hg
      exact rf_zret C hE (by decide) (by decide +kernel)
-- X14_feed
abbrev j_X14_feed : rf_J := (14, yX14_feed, cX14_feed, 8, (some .int))
theorem mw_X14_feed : rf_mv j_X14_feed (rf_R 14) 5 := ⟨⟨rf_mem 35 (by decide +kernel), rf_mem 35 (by decide +kernel), rf_mem 0 (by decide +kernel), rf_mem 35 (by decide +kernel)⟩, by decide +kernel, by decide⟩
def g_X14_feed_76 (w : rf_w) (rec23 : Int32 → Int32 → Int32 → Int32 → Int32 → Int32 → rf_m → Option (Int32 × rf_m)) (a1 : Int32) (a2 : Int32) (a3 : Int32) (a4 : Int32) (a5 : Int32) (a6 : Int32) (s0 : Int32) (m : rf_m) : Option (Int32 × rf_m) := rf_g (rf_in (m.1 206 44) 300) (rec23 a1 a2 a3 a4 a5 (a6 + 1) (rf_i (rf_i m 234 (Int32.toNatClampNeg (m.1 206 44)) (vp_nar .byte ((Int32.toInt8 (s0 >>> ((24 - (8 * (a6 - a6 / 4 * 4))) &&& 31))).toInt32))) 206 44 (((rf_i m 234 (Int32.toNatClampNeg (m.1 206 44)) (vp_nar .byte ((Int32.toInt8 (s0 >>> ((24 - (8 * (a6 - a6 / 4 * 4))) &&& 31))).toInt32))).1 206 44) + 1)))
def g_X14_feed_23_b (w : rf_w) (rec23 : Int32 → Int32 → Int32 → Int32 → Int32 → Int32 → rf_m → Option (Int32 × rf_m)) (a1 : Int32) (a2 : Int32) (a3 : Int32) (a4 : Int32) (a5 : Int32) (a6 : Int32) (m : rf_m) : Option (Int32 × rf_m) := (if 20 ≤ a6 then some (m.1 206 44, m) else (if 4 ≤ a6 then (if 8 ≤ a6 then (if 12 ≤ a6 then (if 16 ≤ a6 then g_X14_feed_76 w rec23 a1 a2 a3 a4 a5 a6 a5 m else g_X14_feed_76 w rec23 a1 a2 a3 a4 a5 a6 a4 m) else g_X14_feed_76 w rec23 a1 a2 a3 a4 a5 a6 a3 m) else g_X14_feed_76 w rec23 a1 a2 a3 a4 a5 a6 a2 m) else g_X14_feed_76 w rec23 a1 a2 a3 a4 a5 a6 a1 m))
def g_X14_feed_23 (w : rf_w) : Nat → Int32 → Int32 → Int32 → Int32 → Int32 → Int32 → rf_m → Option (Int32 × rf_m)
  | 0, _, _, _, _, _, _, _ => none
  | n + 1, a1, a2, a3, a4, a5, a6, m => g_X14_feed_23_b w (g_X14_feed_23 w n) a1 a2 a3 a4 a5 a6 m
def g_X14_feed (w : rf_w) (m : rf_m) (a1 : Int32) (a2 : Int32) (a3 : Int32) (a4 : Int32) (a5 : Int32) : Option (Int32 × rf_m) := (if (((rf_i m 206 0 0).1 206 44) + 20) ≤ 300 then g_X14_feed_23 w rf_fuel a1 a2 a3 a4 a5 0 (rf_i m 206 0 0) else some ((-1), rf_i m 206 0 0))
theorem s_X14_feed_76 {w : rf_w} {K : rf_K} {r : Int32 × rf_m} (C : rf_Ctx 14 cX14_feed 8 1 (rf_sh w) K) (hE : rf_End (some .int) K (rf_sh w) 0 0 (some (.int r.1)) (rf_MM w r.2)) {rec23 : Int32 → Int32 → Int32 → Int32 → Int32 → Int32 → rf_m → Option (Int32 × rf_m)} (hr23 : ∀ (a1 : Int32) (a2 : Int32) (a3 : Int32) (a4 : Int32) (a5 : Int32) (a6 : Int32) (m : rf_m), rec23 a1 a2 a3 a4 a5 a6 m = some r → rf_V 8 (rf_sh w) K 0 0 23 ([(0, .ref 206), (1, .int a1), (2, .int a2), (3, .int a3), (4, .int a4), (5, .int a5), (6, .int a6)], [], rf_MM w m)) (a1 : Int32) (a2 : Int32) (a3 : Int32) (a4 : Int32) (a5 : Int32) (a6 : Int32) (s0 : Int32) (m : rf_m) (hg : g_X14_feed_76 w rec23 a1 a2 a3 a4 a5 a6 s0 m = some r) : rf_V 8 (rf_sh w) K 0 0 76 ([(0, .ref 206), (1, .int a1), (2, .int a2), (3, .int a3), (4, .int a4), (5, .int a5), (6, .int a6)], [.int s0], rf_MM w m) := by
  unfold g_X14_feed_76 at hg
  obtain ⟨q0, hg⟩ := rf_g_some hg
  refine rf_seg C [(.istore 7, 2), (.aload 0, 1), (.invokeinterface 14 43, 3), (.aload 0, 1), (.invokeinterface 14 44, 3), (.iload 7, 2), (.iconst 24, 2), (.iconst 8, 2), (.iload 6, 2), (.iconst 4, 1), (.irem, 1), (.imul, 1), (.isub, 1), (.ishr, 1), (.i2b, 1), (.bastore, 1), (.aload 0, 1), (.dup, 1), (.invokeinterface 14 44, 3), (.iconst 1, 1), (.iadd, 1), (.multianewarray 14 44, 3), (.iinc 6 1, 3)] (pc' := 114) (S' := ([(6, .int (a6 + 1)), (7, .int s0), (0, .ref 206), (1, .int a1), (2, .int a2), (3, .int a3), (4, .int a4), (5, .int a5)], [], rf_MM w (rf_i (rf_i m 234 (Int32.toNatClampNeg (m.1 206 44)) (vp_nar .byte ((Int32.toInt8 (s0 >>> ((24 - (8 * (a6 - a6 / 4 * 4))) &&& 31))).toInt32))) 206 44 (((rf_i m 234 (Int32.toNatClampNeg (m.1 206 44)) (vp_nar .byte ((Int32.toInt8 (s0 >>> ((24 - (8 * (a6 - a6 / 4 * 4))) &&& 31))).toInt32))).1 206 44) + 1)))) (by decide +kernel) rfl (by exact ⟨(rf_nz_of (by decide)), (rf_in_of q0)⟩) ?_
  refine rf_goto C (-91) 23 (by decide +kernel) ?_
  refine rf_few [2, 3, 4, 5, 6, 7, 0] rfl ?_
  exact hr23 a1 a2 a3 a4 a5 (a6 + 1) (rf_i (rf_i m 234 (Int32.toNatClampNeg (m.1 206 44)) (vp_nar .byte ((Int32.toInt8 (s0 >>> ((24 - (8 * (a6 - a6 / 4 * 4))) &&& 31))).toInt32))) 206 44 (((rf_i m 234 (Int32.toNatClampNeg (m.1 206 44)) (vp_nar .byte ((Int32.toInt8 (s0 >>> ((24 - (8 * (a6 - a6 / 4 * 4))) &&& 31))).toInt32))).1 206 44) + 1)) hg
theorem s_X14_feed_23_b {w : rf_w} {K : rf_K} {r : Int32 × rf_m} (C : rf_Ctx 14 cX14_feed 8 1 (rf_sh w) K) (hE : rf_End (some .int) K (rf_sh w) 0 0 (some (.int r.1)) (rf_MM w r.2)) {rec23 : Int32 → Int32 → Int32 → Int32 → Int32 → Int32 → rf_m → Option (Int32 × rf_m)} (hr23 : ∀ (a1 : Int32) (a2 : Int32) (a3 : Int32) (a4 : Int32) (a5 : Int32) (a6 : Int32) (m : rf_m), rec23 a1 a2 a3 a4 a5 a6 m = some r → rf_V 8 (rf_sh w) K 0 0 23 ([(0, .ref 206), (1, .int a1), (2, .int a2), (3, .int a3), (4, .int a4), (5, .int a5), (6, .int a6)], [], rf_MM w m)) (a1 : Int32) (a2 : Int32) (a3 : Int32) (a4 : Int32) (a5 : Int32) (a6 : Int32) (m : rf_m) (hg : g_X14_feed_23_b w rec23 a1 a2 a3 a4 a5 a6 m = some r) : rf_V 8 (rf_sh w) K 0 0 23 ([(0, .ref 206), (1, .int a1), (2, .int a2), (3, .int a3), (4, .int a4), (5, .int a5), (6, .int a6)], [], rf_MM w m) := by
  unfold g_X14_feed_23_b at hg
  refine rf_seg C [(.iload 6, 2), (.iconst 20, 2)] (pc' := 27) (S' := ([(0, .ref 206), (1, .int a1), (2, .int a2), (3, .int a3), (4, .int a4), (5, .int a5), (6, .int a6)], [.int 20, .int a6], rf_MM w m)) (by decide +kernel) rfl trivial ?_
  refine rf_icmp_ge C 90 117 (by decide +kernel) (fun hc => ?_) (fun hc => ?_)
  · replace hg := (if_pos hc).symm.trans hg
    refine rf_seg C [(.aload 0, 1), (.invokeinterface 14 44, 3)] (pc' := 121) (S' := ([(0, .ref 206), (1, .int a1), (2, .int a2), (3, .int a3), (4, .int a4), (5, .int a5), (6, .int a6)], [.int (m.1 206 44)], rf_MM w m)) (by decide +kernel) rfl trivial ?_
    obtain rfl := Option.some.inj hg
    exact rf_iret C hE (by decide +kernel)
  · replace hg := (if_neg hc).symm.trans hg
    refine rf_seg C [(.iload 6, 2), (.iconst 4, 1)] (pc' := 33) (S' := ([(0, .ref 206), (1, .int a1), (2, .int a2), (3, .int a3), (4, .int a4), (5, .int a5), (6, .int a6)], [.int 4, .int a6], rf_MM w m)) (by decide +kernel) rfl trivial ?_
    refine rf_icmp_ge C 7 40 (by decide +kernel) (fun hc => ?_) (fun hc => ?_)
    · replace hg := (if_pos hc).symm.trans hg
      refine rf_seg C [(.iload 6, 2), (.iconst 8, 2)] (pc' := 44) (S' := ([(0, .ref 206), (1, .int a1), (2, .int a2), (3, .int a3), (4, .int a4), (5, .int a5), (6, .int a6)], [.int 8, .int a6], rf_MM w m)) (by decide +kernel) rfl trivial ?_
      refine rf_icmp_ge C 7 51 (by decide +kernel) (fun hc => ?_) (fun hc => ?_)
      · replace hg := (if_pos hc).symm.trans hg
        refine rf_seg C [(.iload 6, 2), (.iconst 12, 2)] (pc' := 55) (S' := ([(0, .ref 206), (1, .int a1), (2, .int a2), (3, .int a3), (4, .int a4), (5, .int a5), (6, .int a6)], [.int 12, .int a6], rf_MM w m)) (by decide +kernel) rfl trivial ?_
        refine rf_icmp_ge C 7 62 (by decide +kernel) (fun hc => ?_) (fun hc => ?_)
        · replace hg := (if_pos hc).symm.trans hg
          refine rf_seg C [(.iload 6, 2), (.iconst 16, 2)] (pc' := 66) (S' := ([(0, .ref 206), (1, .int a1), (2, .int a2), (3, .int a3), (4, .int a4), (5, .int a5), (6, .int a6)], [.int 16, .int a6], rf_MM w m)) (by decide +kernel) rfl trivial ?_
          refine rf_icmp_ge C 8 74 (by decide +kernel) (fun hc => ?_) (fun hc => ?_)
          · replace hg := (if_pos hc).symm.trans hg
            refine rf_seg C [(.iload 5, 2)] (pc' := 76) (S' := ([(0, .ref 206), (1, .int a1), (2, .int a2), (3, .int a3), (4, .int a4), (5, .int a5), (6, .int a6)], [.int a5], rf_MM w m)) (by decide +kernel) rfl trivial ?_
            refine rf_few [0, 1, 2, 3, 4, 5, 6] rfl ?_
            exact s_X14_feed_76 C hE hr23 a1 a2 a3 a4 a5 a6 a5 m hg
          · replace hg := (if_neg hc).symm.trans hg
            refine rf_seg C [(.iload 4, 2)] (pc' := 71) (S' := ([(0, .ref 206), (1, .int a1), (2, .int a2), (3, .int a3), (4, .int a4), (5, .int a5), (6, .int a6)], [.int a4], rf_MM w m)) (by decide +kernel) rfl trivial ?_
            refine rf_goto C 5 76 (by decide +kernel) ?_
            refine rf_few [0, 1, 2, 3, 4, 5, 6] rfl ?_
            exact s_X14_feed_76 C hE hr23 a1 a2 a3 a4 a5 a6 a4 m hg
        · replace hg := (if_neg hc).symm.trans hg
          refine rf_seg C [(.iload 3, 1)] (pc' := 59) (S' := ([(0, .ref 206), (1, .int a1), (2, .int a2), (3, .int a3), (4, .int a4), (5, .int a5), (6, .int a6)], [.int a3], rf_MM w m)) (by decide +kernel) rfl trivial ?_
          refine rf_goto C 17 76 (by decide +kernel) ?_
          refine rf_few [0, 1, 2, 3, 4, 5, 6] rfl ?_
          exact s_X14_feed_76 C hE hr23 a1 a2 a3 a4 a5 a6 a3 m hg
      · replace hg := (if_neg hc).symm.trans hg
        refine rf_seg C [(.iload 2, 1)] (pc' := 48) (S' := ([(0, .ref 206), (1, .int a1), (2, .int a2), (3, .int a3), (4, .int a4), (5, .int a5), (6, .int a6)], [.int a2], rf_MM w m)) (by decide +kernel) rfl trivial ?_
        refine rf_goto C 28 76 (by decide +kernel) ?_
        refine rf_few [0, 1, 2, 3, 4, 5, 6] rfl ?_
        exact s_X14_feed_76 C hE hr23 a1 a2 a3 a4 a5 a6 a2 m hg
    · replace hg := (if_neg hc).symm.trans hg
      refine rf_seg C [(.iload 1, 1)] (pc' := 37) (S' := ([(0, .ref 206), (1, .int a1), (2, .int a2), (3, .int a3), (4, .int a4), (5, .int a5), (6, .int a6)], [.int a1], rf_MM w m)) (by decide +kernel) rfl trivial ?_
      refine rf_goto C 39 76 (by decide +kernel) ?_
      refine rf_few [0, 1, 2, 3, 4, 5, 6] rfl ?_
      exact s_X14_feed_76 C hE hr23 a1 a2 a3 a4 a5 a6 a1 m hg
theorem s_X14_feed_23 {w : rf_w} {K : rf_K} {r : Int32 × rf_m} (C : rf_Ctx 14 cX14_feed 8 1 (rf_sh w) K) (hE : rf_End (some .int) K (rf_sh w) 0 0 (some (.int r.1)) (rf_MM w r.2)) (n : Nat) : ∀ (a1 : Int32) (a2 : Int32) (a3 : Int32) (a4 : Int32) (a5 : Int32) (a6 : Int32) (m : rf_m), g_X14_feed_23 w n a1 a2 a3 a4 a5 a6 m = some r → rf_V 8 (rf_sh w) K 0 0 23 ([(0, .ref 206), (1, .int a1), (2, .int a2), (3, .int a3), (4, .int a4), (5, .int a5), (6, .int a6)], [], rf_MM w m) := by
  induction n with
  | zero => intro a1 a2 a3 a4 a5 a6 m hg; cases hg
  | succ n ih => intro a1 a2 a3 a4 a5 a6 m hg; exact s_X14_feed_23_b C hE ih a1 a2 a3 a4 a5 a6 m hg
theorem c_X14_feed {w : rf_w} {m : rf_m} {a1 : Int32} {a2 : Int32} {a3 : Int32} {a4 : Int32} {a5 : Int32} {r : Int32 × rf_m} (hg : g_X14_feed w m a1 a2 a3 a4 a5 = some r) : rf_Con j_X14_feed 1 (rf_sh w) [.ref 206, .int a1, .int a2, .int a3, .int a4, .int a5] (rf_MM w m) (some (.int r.1)) (rf_MM w r.2) := by
  refine rf_con j_X14_feed 1 ⟨by decide +kernel, rfl, Nat.le_of_ble_eq_true rfl⟩ (fun K C hE => ?_)
  unfold g_X14_feed at hg
  show rf_V 8 (rf_sh w) K 0 0 0 ([(0, .ref 206), (1, .int a1), (2, .int a2), (3, .int a3), (4, .int a4), (5, .int a5)], [], rf_MM w m)
  refine rf_seg C [(.aload 0, 1), (.iconst 0, 1), (.multianewarray 14 0, 3), (.aload 0, 1), (.invokeinterface 14 44, 3), (.iconst 20, 2), (.iadd, 1), (.iconst 300, 3)] (pc' := 15) (S' := ([(0, .ref 206), (1, .int a1), (2, .int a2), (3, .int a3), (4, .int a4), (5, .int a5)], [.int 300, .int (((rf_i m 206 0 0).1 206 44) + 20)], rf_MM w (rf_i m 206 0 0))) (by decide +kernel) rfl trivial ?_
  refine rf_icmp_le C 5 20 (by decide +kernel) (fun hc => ?_) (fun hc => ?_)
  · replace hg := (if_pos hc).symm.trans hg
    refine rf_seg C [(.iconst 0, 1), (.istore 6, 2)] (pc' := 23) (S' := ([(6, .int 0), (0, .ref 206), (1, .int a1), (2, .int a2), (3, .int a3), (4, .int a4), (5, .int a5)], [], rf_MM w (rf_i m 206 0 0))) (by decide +kernel) rfl trivial ?_
    refine rf_few [1, 2, 3, 4, 5, 6, 0] rfl ?_
    exact s_X14_feed_23 C hE rf_fuel a1 a2 a3 a4 a5 0 (rf_i m 206 0 0) hg
  · replace hg := (if_neg hc).symm.trans hg
    refine rf_seg C [(.iconst (-1), 1)] (pc' := 19) (S' := ([(0, .ref 206), (1, .int a1), (2, .int a2), (3, .int a3), (4, .int a4), (5, .int a5)], [.int ((-1))], rf_MM w (rf_i m 206 0 0))) (by decide +kernel) rfl trivial ?_
    obtain rfl := Option.some.inj hg
    exact rf_iret C hE (by decide +kernel)
-- X14_fault
abbrev j_X14_fault : rf_J := (14, yX14_fault, cX14_fault, 1, (some .int))
theorem mw_X14_fault : rf_mv j_X14_fault (rf_R 14) 0 := ⟨⟨rf_mem 50 (by decide +kernel), rf_mem 50 (by decide +kernel), rf_mem 0 (by decide +kernel), rf_mem 50 (by decide +kernel)⟩, by decide +kernel, by decide⟩
def g_X14_fault (w : rf_w) (m : rf_m) : Option (Int32 × rf_m) := some ((rf_i m 206 0 0).1 206 3, rf_i m 206 0 0)
theorem c_X14_fault {w : rf_w} {m : rf_m} {r : Int32 × rf_m} (hg : g_X14_fault w m = some r) : rf_Con j_X14_fault 1 (rf_sh w) [.ref 206] (rf_MM w m) (some (.int r.1)) (rf_MM w r.2) := by
  refine rf_con j_X14_fault 1 ⟨by decide +kernel, rfl, Nat.le_of_ble_eq_true rfl⟩ (fun K C hE => ?_)
  unfold g_X14_fault at hg
  show rf_V 1 (rf_sh w) K 0 0 0 ([(0, .ref 206)], [], rf_MM w m)
  refine rf_seg C [(.aload 0, 1), (.iconst 0, 1), (.multianewarray 14 0, 3), (.aload 0, 1), (.invokeinterface 14 3, 3)] (pc' := 9) (S' := ([(0, .ref 206)], [.int ((rf_i m 206 0 0).1 206 3)], rf_MM w (rf_i m 206 0 0))) (by decide +kernel) rfl trivial ?_
  obtain rfl := Option.some.inj hg
  exact rf_iret C hE (by decide +kernel)
-- X14_where
abbrev j_X14_where : rf_J := (14, yX14_where, cX14_where, 1, (some .int))
theorem mw_X14_where : rf_mv j_X14_where (rf_R 14) 0 := ⟨⟨rf_mem 51 (by decide +kernel), rf_mem 51 (by decide +kernel), rf_mem 0 (by decide +kernel), rf_mem 51 (by decide +kernel)⟩, by decide +kernel, by decide⟩
def g_X14_where (w : rf_w) (m : rf_m) : Option (Int32 × rf_m) := some ((rf_i m 206 0 0).1 206 2, rf_i m 206 0 0)
theorem c_X14_where {w : rf_w} {m : rf_m} {r : Int32 × rf_m} (hg : g_X14_where w m = some r) : rf_Con j_X14_where 1 (rf_sh w) [.ref 206] (rf_MM w m) (some (.int r.1)) (rf_MM w r.2) := by
  refine rf_con j_X14_where 1 ⟨by decide +kernel, rfl, Nat.le_of_ble_eq_true rfl⟩ (fun K C hE => ?_)
  unfold g_X14_where at hg
  show rf_V 1 (rf_sh w) K 0 0 0 ([(0, .ref 206)], [], rf_MM w m)
  refine rf_seg C [(.aload 0, 1), (.iconst 0, 1), (.multianewarray 14 0, 3), (.aload 0, 1), (.invokeinterface 14 2, 3)] (pc' := 9) (S' := ([(0, .ref 206)], [.int ((rf_i m 206 0 0).1 206 2)], rf_MM w (rf_i m 206 0 0))) (by decide +kernel) rfl trivial ?_
  obtain rfl := Option.some.inj hg
  exact rf_iret C hE (by decide +kernel)
-- X14_force
abbrev j_X14_force : rf_J := (14, yX14_force, cX14_force, 4, (some .boolean))
theorem mw_X14_force : rf_mv j_X14_force (rf_R 14) 3 := ⟨⟨rf_mem 51 (by decide +kernel), rf_mem 51 (by decide +kernel), rf_mem 0 (by decide +kernel), rf_mem 51 (by decide +kernel)⟩, by decide +kernel, by decide⟩
def g_X14_force (w : rf_w) (m : rf_m) (a1 : Int32) (a2 : Int32) (a3 : Int32) : Option (Int32 × rf_m) := (if a1 < 0 then rf_b (g_X14_denied w (rf_i m 206 0 0) 1) fun y0 m0 => rf_g (rf_01 y0) (some (y0, m0)) else (if a1 < ((rf_i m 206 0 0).1 206 39) then rf_b (g_X14_isDay w (rf_i m 206 0 0) a2) fun y1 m1 => (if y1 = 0 then rf_b (g_X14_denied w m1 2) fun y2 m2 => rf_g (rf_01 y2) (some (y2, m2)) else rf_b (g_X14_in w m1 a3 a2 9999) fun y3 m3 => (if y3 = 0 then rf_b (g_X14_denied w m3 2) fun y19 m19 => rf_g (rf_01 y19) (some (y19, m19)) else rf_g (rf_in a1 24) (rf_o (rf_Rt w 229 (Int32.toNatClampNeg a1)) fun k5 => rf_g (rf_isO w k5 12) (rf_g (rf_isR w k5 5 (k5 + 1)) (rf_g (rf_isA w (k5 + 1) .int 300) (rf_g (rf_isR w k5 6 (k5 + 2)) (rf_g (rf_isA w (k5 + 2) .int 300) (rf_g (rf_in a1 24) (rf_o (rf_Rt w 229 (Int32.toNatClampNeg a1)) fun k12 => rf_g (rf_isO w k12 12) (rf_g (rf_isR w k12 5 (k12 + 1)) (rf_g (rf_isA w (k12 + 1) .int 300) (rf_g (rf_isR w k12 6 (k12 + 2)) (rf_g (rf_isA w (k12 + 2) .int 300) (rf_b (g_X14_granted w (rf_i (rf_i m3 k5 1 a2) k12 2 a3)) fun y18 m18 => rf_g (rf_01 y18) (some (y18, m18)))))))))))))))) else rf_b (g_X14_denied w (rf_i m 206 0 0) 1) fun y20 m20 => rf_g (rf_01 y20) (some (y20, m20))))
theorem c_X14_force {w : rf_w} {m : rf_m} {a1 : Int32} {a2 : Int32} {a3 : Int32} {r : Int32 × rf_m} (hg : g_X14_force w m a1 a2 a3 = some r) : rf_Con j_X14_force 2 (rf_sh w) [.ref 206, .int a1, .int a2, .int a3] (rf_MM w m) (some (.int r.1)) (rf_MM w r.2) := by
  refine rf_con j_X14_force 2 ⟨by decide +kernel, rfl, Nat.le_of_ble_eq_true rfl⟩ (fun K C hE => ?_)
  unfold g_X14_force at hg
  show rf_V 4 (rf_sh w) K 0 0 0 ([(0, .ref 206), (1, .int a1), (2, .int a2), (3, .int a3)], [], rf_MM w m)
  refine rf_seg C [(.aload 0, 1), (.iconst 0, 1), (.multianewarray 14 0, 3), (.iload 1, 1)] (pc' := 6) (S' := ([(0, .ref 206), (1, .int a1), (2, .int a2), (3, .int a3)], [.int a1], rf_MM w (rf_i m 206 0 0))) (by decide +kernel) rfl trivial ?_
  refine rf_if_lt C 11 17 (by decide +kernel) (fun hc => ?_) (fun hc => ?_)
  · replace hg := (if_pos hc).symm.trans hg
    refine rf_seg C [(.aload 0, 1), (.iconst 1, 1)] (pc' := 19) (S' := ([(0, .ref 206), (1, .int a1), (2, .int a2), (3, .int a3)], [.int 1, .ref 206], rf_MM w (rf_i m 206 0 0))) (by decide +kernel) rfl trivial ?_
    obtain ⟨y0, m0, hc0, hg⟩ := rf_b_some hg
    refine rf_callv C rf_fit0 j_X14_denied (ci := 14) (As := [.int 1]) (rest := []) mw_X14_denied (c_X14_denied hc0) (by decide) rfl (by decide) lk_14_342 rfl rfl (Nat.le_of_ble_eq_true rfl) (by decide +kernel) ?_
    show rf_V 4 (rf_sh w) K 0 0 22 ([(0, .ref 206), (1, .int a1), (2, .int a2), (3, .int a3)], [.int y0], rf_MM w m0)
    obtain ⟨q01, hg⟩ := rf_g_some hg
    obtain rfl := Option.some.inj hg
    exact rf_zret C hE (rf_01_of q01) (by decide +kernel)
  · replace hg := (if_neg hc).symm.trans hg
    refine rf_seg C [(.iload 1, 1), (.aload 0, 1), (.invokeinterface 14 39, 3)] (pc' := 14) (S' := ([(0, .ref 206), (1, .int a1), (2, .int a2), (3, .int a3)], [.int ((rf_i m 206 0 0).1 206 39), .int a1], rf_MM w (rf_i m 206 0 0))) (by decide +kernel) rfl trivial ?_
    refine rf_icmp_lt C 9 23 (by decide +kernel) (fun hc => ?_) (fun hc => ?_)
    · replace hg := (if_pos hc).symm.trans hg
      refine rf_seg C [(.iload 2, 1)] (pc' := 24) (S' := ([(0, .ref 206), (1, .int a1), (2, .int a2), (3, .int a3)], [.int a2], rf_MM w (rf_i m 206 0 0))) (by decide +kernel) rfl trivial ?_
      obtain ⟨y1, m1, hc1, hg⟩ := rf_b_some hg
      refine rf_calls C rf_fit0 j_X14_isDay (As := [.int a2]) (rest := []) mw_X14_isDay (c_X14_isDay hc1) (by decide) lk_14_366 rfl rfl (Nat.le_of_ble_eq_true rfl) (by decide +kernel) ?_
      show rf_V 4 (rf_sh w) K 0 0 27 ([(0, .ref 206), (1, .int a1), (2, .int a2), (3, .int a3)], [.int y1], rf_MM w m1)
      refine rf_if_eq C 14 41 (by decide +kernel) (fun hc => ?_) (fun hc => ?_)
      · replace hg := (if_pos hc).symm.trans hg
        refine rf_seg C [(.aload 0, 1), (.iconst 2, 1)] (pc' := 43) (S' := ([(0, .ref 206), (1, .int a1), (2, .int a2), (3, .int a3)], [.int 2, .ref 206], rf_MM w m1)) (by decide +kernel) rfl trivial ?_
        obtain ⟨y2, m2, hc2, hg⟩ := rf_b_some hg
        refine rf_callv C rf_fit0 j_X14_denied (ci := 14) (As := [.int 2]) (rest := []) mw_X14_denied (c_X14_denied hc2) (by decide) rfl (by decide) lk_14_342 rfl rfl (Nat.le_of_ble_eq_true rfl) (by decide +kernel) ?_
        show rf_V 4 (rf_sh w) K 0 0 46 ([(0, .ref 206), (1, .int a1), (2, .int a2), (3, .int a3)], [.int y2], rf_MM w m2)
        obtain ⟨q01, hg⟩ := rf_g_some hg
        obtain rfl := Option.some.inj hg
        exact rf_zret C hE (rf_01_of q01) (by decide +kernel)
      · replace hg := (if_neg hc).symm.trans hg
        refine rf_seg C [(.iload 3, 1), (.iload 2, 1), (.iconst 9999, 3)] (pc' := 35) (S' := ([(0, .ref 206), (1, .int a1), (2, .int a2), (3, .int a3)], [.int 9999, .int a2, .int a3], rf_MM w m1)) (by decide +kernel) rfl trivial ?_
        obtain ⟨y3, m3, hc3, hg⟩ := rf_b_some hg
        refine rf_calls C rf_fit0 j_X14_in (As := [.int a3, .int a2, .int 9999]) (rest := []) mw_X14_in (c_X14_in hc3) (by decide) lk_14_345 rfl rfl (Nat.le_of_ble_eq_true rfl) (by decide +kernel) ?_
        show rf_V 4 (rf_sh w) K 0 0 38 ([(0, .ref 206), (1, .int a1), (2, .int a2), (3, .int a3)], [.int y3], rf_MM w m3)
        refine rf_if_ne C 9 47 (by decide +kernel) (fun hc => ?_) (fun hc => ?_)
        · replace hg := (if_neg hc).symm.trans hg
          refine rf_seg C [(.aload 0, 1), (.invokeinterface 14 40, 3), (.iload 1, 1)] (pc' := 52) (S' := ([(0, .ref 206), (1, .int a1), (2, .int a2), (3, .int a3)], [.int a1, .ref 229], rf_MM w m3)) (by decide +kernel) rfl trivial ?_
          obtain ⟨q4, hg⟩ := rf_g_some hg
          obtain ⟨k5, hk5, hg⟩ := rf_o_some hg
          refine rf_d_aaload C (n := 24) (q := k5) rfl (rf_in_of q4) hk5 (by decide +kernel) ?_
          obtain ⟨q6, hg⟩ := rf_g_some hg
          obtain ⟨q7, hg⟩ := rf_g_some hg
          obtain ⟨q8, hg⟩ := rf_g_some hg
          obtain ⟨q9, hg⟩ := rf_g_some hg
          obtain ⟨q10, hg⟩ := rf_g_some hg
          show rf_V 4 (rf_sh w) K 0 0 53 ([(0, .ref 206), (1, .int a1), (2, .int a2), (3, .int a3)], [.ref k5], rf_MM w m3)
          refine rf_seg C [(.iload 2, 1)] (pc' := 54) (S' := ([(0, .ref 206), (1, .int a1), (2, .int a2), (3, .int a3)], [.int a2, .ref k5], rf_MM w m3)) (by decide +kernel) rfl trivial ?_
          refine rf_d_put C 12 1 (rf_isO_of q6) rfl (by decide +kernel) ?_
          show rf_V 4 (rf_sh w) K 0 0 57 ([(0, .ref 206), (1, .int a1), (2, .int a2), (3, .int a3)], [], rf_MM w (rf_i m3 k5 1 a2))
          refine rf_seg C [(.aload 0, 1), (.invokeinterface 14 40, 3), (.iload 1, 1)] (pc' := 62) (S' := ([(0, .ref 206), (1, .int a1), (2, .int a2), (3, .int a3)], [.int a1, .ref 229], rf_MM w (rf_i m3 k5 1 a2))) (by decide +kernel) rfl trivial ?_
          obtain ⟨q11, hg⟩ := rf_g_some hg
          obtain ⟨k12, hk12, hg⟩ := rf_o_some hg
          refine rf_d_aaload C (n := 24) (q := k12) rfl (rf_in_of q11) hk12 (by decide +kernel) ?_
          obtain ⟨q13, hg⟩ := rf_g_some hg
          obtain ⟨q14, hg⟩ := rf_g_some hg
          obtain ⟨q15, hg⟩ := rf_g_some hg
          obtain ⟨q16, hg⟩ := rf_g_some hg
          obtain ⟨q17, hg⟩ := rf_g_some hg
          show rf_V 4 (rf_sh w) K 0 0 63 ([(0, .ref 206), (1, .int a1), (2, .int a2), (3, .int a3)], [.ref k12], rf_MM w (rf_i m3 k5 1 a2))
          refine rf_seg C [(.iload 3, 1)] (pc' := 64) (S' := ([(0, .ref 206), (1, .int a1), (2, .int a2), (3, .int a3)], [.int a3, .ref k12], rf_MM w (rf_i m3 k5 1 a2))) (by decide +kernel) rfl trivial ?_
          refine rf_d_put C 12 2 (rf_isO_of q13) rfl (by decide +kernel) ?_
          show rf_V 4 (rf_sh w) K 0 0 67 ([(0, .ref 206), (1, .int a1), (2, .int a2), (3, .int a3)], [], rf_MM w (rf_i (rf_i m3 k5 1 a2) k12 2 a3))
          refine rf_seg C [(.aload 0, 1)] (pc' := 68) (S' := ([(0, .ref 206), (1, .int a1), (2, .int a2), (3, .int a3)], [.ref 206], rf_MM w (rf_i (rf_i m3 k5 1 a2) k12 2 a3))) (by decide +kernel) rfl trivial ?_
          obtain ⟨y18, m18, hc18, hg⟩ := rf_b_some hg
          refine rf_callv C rf_fit0 j_X14_granted (ci := 14) (As := []) (rest := []) mw_X14_granted (c_X14_granted hc18) (by decide) rfl (by decide) lk_14_349 rfl rfl (Nat.le_of_ble_eq_true rfl) (by decide +kernel) ?_
          show rf_V 4 (rf_sh w) K 0 0 71 ([(0, .ref 206), (1, .int a1), (2, .int a2), (3, .int a3)], [.int y18], rf_MM w m18)
          obtain ⟨q01, hg⟩ := rf_g_some hg
          obtain rfl := Option.some.inj hg
          exact rf_zret C hE (rf_01_of q01) (by decide +kernel)
        · replace hg := (if_pos hc).symm.trans hg
          refine rf_seg C [(.aload 0, 1), (.iconst 2, 1)] (pc' := 43) (S' := ([(0, .ref 206), (1, .int a1), (2, .int a2), (3, .int a3)], [.int 2, .ref 206], rf_MM w m3)) (by decide +kernel) rfl trivial ?_
          obtain ⟨y19, m19, hc19, hg⟩ := rf_b_some hg
          refine rf_callv C rf_fit0 j_X14_denied (ci := 14) (As := [.int 2]) (rest := []) mw_X14_denied (c_X14_denied hc19) (by decide) rfl (by decide) lk_14_342 rfl rfl (Nat.le_of_ble_eq_true rfl) (by decide +kernel) ?_
          show rf_V 4 (rf_sh w) K 0 0 46 ([(0, .ref 206), (1, .int a1), (2, .int a2), (3, .int a3)], [.int y19], rf_MM w m19)
          obtain ⟨q01, hg⟩ := rf_g_some hg
          obtain rfl := Option.some.inj hg
          exact rf_zret C hE (rf_01_of q01) (by decide +kernel)
    · replace hg := (if_neg hc).symm.trans hg
      refine rf_seg C [(.aload 0, 1), (.iconst 1, 1)] (pc' := 19) (S' := ([(0, .ref 206), (1, .int a1), (2, .int a2), (3, .int a3)], [.int 1, .ref 206], rf_MM w (rf_i m 206 0 0))) (by decide +kernel) rfl trivial ?_
      obtain ⟨y20, m20, hc20, hg⟩ := rf_b_some hg
      refine rf_callv C rf_fit0 j_X14_denied (ci := 14) (As := [.int 1]) (rest := []) mw_X14_denied (c_X14_denied hc20) (by decide) rfl (by decide) lk_14_342 rfl rfl (Nat.le_of_ble_eq_true rfl) (by decide +kernel) ?_
      show rf_V 4 (rf_sh w) K 0 0 22 ([(0, .ref 206), (1, .int a1), (2, .int a2), (3, .int a3)], [.int y20], rf_MM w m20)
      obtain ⟨q01, hg⟩ := rf_g_some hg
      obtain rfl := Option.some.inj hg
      exact rf_zret C hE (rf_01_of q01) (by decide +kernel)
-- X14_latest
abbrev j_X14_latest : rf_J := (14, yX14_latest, cX14_latest, 4, (some .int))
theorem mw_X14_latest : rf_mv j_X14_latest (rf_R 14) 2 := ⟨⟨rf_mem 52 (by decide +kernel), rf_mem 52 (by decide +kernel), rf_mem 0 (by decide +kernel), rf_mem 52 (by decide +kernel)⟩, by decide +kernel, by decide⟩
def g_X14_latest_68 (w : rf_w) (rec28 : Int32 → Int32 → Int32 → rf_m → Option (Int32 × rf_m)) (a1 : Int32) (a2 : Int32) (a3 : Int32) (m : rf_m) : Option (Int32 × rf_m) := rec28 a1 a2 (a3 + (-1)) m
def g_X14_latest_28_b (w : rf_w) (rec28 : Int32 → Int32 → Int32 → rf_m → Option (Int32 × rf_m)) (a1 : Int32) (a2 : Int32) (a3 : Int32) (m : rf_m) : Option (Int32 × rf_m) := (if a3 < 0 then some (a2, m) else rf_g (rf_in a3 24) (rf_o (rf_Rt w 229 (Int32.toNatClampNeg a3)) fun k1 => rf_g (rf_isO w k1 12) (rf_g (rf_isR w k1 5 (k1 + 1)) (rf_g (rf_isA w (k1 + 1) .int 300) (rf_g (rf_isR w k1 6 (k1 + 2)) (rf_g (rf_isA w (k1 + 2) .int 300) ((if (m.1 k1 0) = a1 then rf_b (g_X14_isInForce w m a3 (m.1 206 5)) fun y7 m7 => (if y7 = 0 then g_X14_latest_68 w rec28 a1 a2 a3 m7 else rf_g (rf_in a3 24) (rf_o (rf_Rt w 229 (Int32.toNatClampNeg a3)) fun k9 => rf_g (rf_isO w k9 12) (rf_g (rf_isR w k9 5 (k9 + 1)) (rf_g (rf_isA w (k9 + 1) .int 300) (rf_g (rf_isR w k9 6 (k9 + 2)) (rf_g (rf_isA w (k9 + 2) .int 300) (rf_b (g_X14_sumOf w m7 k9) fun y15 m15 => some (y15, m15)))))))) else g_X14_latest_68 w rec28 a1 a2 a3 m))))))))
def g_X14_latest_28 (w : rf_w) : Nat → Int32 → Int32 → Int32 → rf_m → Option (Int32 × rf_m)
  | 0, _, _, _, _ => none
  | n + 1, a1, a2, a3, m => g_X14_latest_28_b w (g_X14_latest_28 w n) a1 a2 a3 m
def g_X14_latest_2_b (w : rf_w) (rec2 : Int32 → Int32 → Int32 → rf_m → Option (Int32 × rf_m)) (a1 : Int32) (a2 : Int32) (a3 : Int32) (m : rf_m) : Option (Int32 × rf_m) := (if 7 ≤ a3 then g_X14_latest_28 w rf_fuel a1 a2 ((m.1 206 39) - 1) m else rf_g (rf_in a3 7) (rec2 a1 a2 (a3 + 1) (rf_i m 228 (Int32.toNatClampNeg a3) 0)))
def g_X14_latest_2 (w : rf_w) : Nat → Int32 → Int32 → Int32 → rf_m → Option (Int32 × rf_m)
  | 0, _, _, _, _ => none
  | n + 1, a1, a2, a3, m => g_X14_latest_2_b w (g_X14_latest_2 w n) a1 a2 a3 m
def g_X14_latest (w : rf_w) (m : rf_m) (a1 : Int32) (a2 : Int32) : Option (Int32 × rf_m) := g_X14_latest_2 w rf_fuel a1 a2 0 m
theorem s_X14_latest_68 {w : rf_w} {K : rf_K} {r : Int32 × rf_m} (C : rf_Ctx 14 cX14_latest 4 5 (rf_sh w) K) (hE : rf_End (some .int) K (rf_sh w) 0 0 (some (.int r.1)) (rf_MM w r.2)) {rec28 : Int32 → Int32 → Int32 → rf_m → Option (Int32 × rf_m)} (hr28 : ∀ (a1 : Int32) (a2 : Int32) (a3 : Int32) (m : rf_m), rec28 a1 a2 a3 m = some r → rf_V 4 (rf_sh w) K 0 0 28 ([(0, .ref 206), (1, .int a1), (2, .int a2), (3, .int a3)], [], rf_MM w m)) (a1 : Int32) (a2 : Int32) (a3 : Int32) (m : rf_m) (hg : g_X14_latest_68 w rec28 a1 a2 a3 m = some r) : rf_V 4 (rf_sh w) K 0 0 68 ([(0, .ref 206), (1, .int a1), (2, .int a2), (3, .int a3)], [], rf_MM w m) := by
  unfold g_X14_latest_68 at hg
  refine rf_seg C [(.iinc 3 (-1), 3)] (pc' := 71) (S' := ([(3, .int (a3 + (-1))), (0, .ref 206), (1, .int a1), (2, .int a2)], [], rf_MM w m)) (by decide +kernel) rfl trivial ?_
  refine rf_goto C (-43) 28 (by decide +kernel) ?_
  refine rf_few [1, 2, 3, 0] rfl ?_
  exact hr28 a1 a2 (a3 + (-1)) m hg
theorem s_X14_latest_28_b {w : rf_w} {K : rf_K} {r : Int32 × rf_m} (C : rf_Ctx 14 cX14_latest 4 5 (rf_sh w) K) (hE : rf_End (some .int) K (rf_sh w) 0 0 (some (.int r.1)) (rf_MM w r.2)) {rec28 : Int32 → Int32 → Int32 → rf_m → Option (Int32 × rf_m)} (hr28 : ∀ (a1 : Int32) (a2 : Int32) (a3 : Int32) (m : rf_m), rec28 a1 a2 a3 m = some r → rf_V 4 (rf_sh w) K 0 0 28 ([(0, .ref 206), (1, .int a1), (2, .int a2), (3, .int a3)], [], rf_MM w m)) (a1 : Int32) (a2 : Int32) (a3 : Int32) (m : rf_m) (hg : g_X14_latest_28_b w rec28 a1 a2 a3 m = some r) : rf_V 4 (rf_sh w) K 0 0 28 ([(0, .ref 206), (1, .int a1), (2, .int a2), (3, .int a3)], [], rf_MM w m) := by
  unfold g_X14_latest_28_b at hg
  refine rf_seg C [(.iload 3, 1)] (pc' := 29) (S' := ([(0, .ref 206), (1, .int a1), (2, .int a2), (3, .int a3)], [.int a3], rf_MM w m)) (by decide +kernel) rfl trivial ?_
  refine rf_if_lt C 45 74 (by decide +kernel) (fun hc => ?_) (fun hc => ?_)
  · replace hg := (if_pos hc).symm.trans hg
    refine rf_seg C [(.iload 2, 1)] (pc' := 75) (S' := ([(0, .ref 206), (1, .int a1), (2, .int a2), (3, .int a3)], [.int a2], rf_MM w m)) (by decide +kernel) rfl trivial ?_
    obtain rfl := Option.some.inj hg
    exact rf_iret C hE (by decide +kernel)
  · replace hg := (if_neg hc).symm.trans hg
    refine rf_seg C [(.aload 0, 1), (.invokeinterface 14 40, 3), (.iload 3, 1)] (pc' := 37) (S' := ([(0, .ref 206), (1, .int a1), (2, .int a2), (3, .int a3)], [.int a3, .ref 229], rf_MM w m)) (by decide +kernel) rfl trivial ?_
    obtain ⟨q0, hg⟩ := rf_g_some hg
    obtain ⟨k1, hk1, hg⟩ := rf_o_some hg
    refine rf_d_aaload C (n := 24) (q := k1) rfl (rf_in_of q0) hk1 (by decide +kernel) ?_
    obtain ⟨q2, hg⟩ := rf_g_some hg
    obtain ⟨q3, hg⟩ := rf_g_some hg
    obtain ⟨q4, hg⟩ := rf_g_some hg
    obtain ⟨q5, hg⟩ := rf_g_some hg
    obtain ⟨q6, hg⟩ := rf_g_some hg
    show rf_V 4 (rf_sh w) K 0 0 38 ([(0, .ref 206), (1, .int a1), (2, .int a2), (3, .int a3)], [.ref k1], rf_MM w m)
    refine rf_d_get C 12 0 (rf_isO_of q2) (by decide +kernel) ?_
    show rf_V 4 (rf_sh w) K 0 0 41 ([(0, .ref 206), (1, .int a1), (2, .int a2), (3, .int a3)], [.int (m.1 k1 0)], rf_MM w m)
    refine rf_seg C [(.iload 1, 1)] (pc' := 42) (S' := ([(0, .ref 206), (1, .int a1), (2, .int a2), (3, .int a3)], [.int a1, .int (m.1 k1 0)], rf_MM w m)) (by decide +kernel) rfl trivial ?_
    refine rf_icmp_ne C 26 68 (by decide +kernel) (fun hc => ?_) (fun hc => ?_)
    · replace hg := (if_neg hc).symm.trans hg
      refine rf_few [0, 1, 2, 3] rfl ?_
      exact s_X14_latest_68 C hE hr28 a1 a2 a3 m hg
    · replace hg := (if_pos hc).symm.trans hg
      refine rf_seg C [(.aload 0, 1), (.iload 3, 1), (.aload 0, 1), (.invokeinterface 14 5, 3)] (pc' := 51) (S' := ([(0, .ref 206), (1, .int a1), (2, .int a2), (3, .int a3)], [.int (m.1 206 5), .int a3, .ref 206], rf_MM w m)) (by decide +kernel) rfl trivial ?_
      obtain ⟨y7, m7, hc7, hg⟩ := rf_b_some hg
      refine rf_callv C rf_fit0 j_X14_isInForce (ci := 14) (As := [.int a3, .int (m.1 206 5)]) (rest := []) mw_X14_isInForce (c_X14_isInForce hc7) (by decide) rfl (by decide) lk_14_458 rfl rfl (Nat.le_of_ble_eq_true rfl) (by decide +kernel) ?_
      show rf_V 4 (rf_sh w) K 0 0 54 ([(0, .ref 206), (1, .int a1), (2, .int a2), (3, .int a3)], [.int y7], rf_MM w m7)
      refine rf_if_eq C 14 68 (by decide +kernel) (fun hc => ?_) (fun hc => ?_)
      · replace hg := (if_pos hc).symm.trans hg
        refine rf_few [0, 1, 2, 3] rfl ?_
        exact s_X14_latest_68 C hE hr28 a1 a2 a3 m7 hg
      · replace hg := (if_neg hc).symm.trans hg
        refine rf_seg C [(.aload 0, 1), (.aload 0, 1), (.invokeinterface 14 40, 3), (.iload 3, 1)] (pc' := 63) (S' := ([(0, .ref 206), (1, .int a1), (2, .int a2), (3, .int a3)], [.int a3, .ref 229, .ref 206], rf_MM w m7)) (by decide +kernel) rfl trivial ?_
        obtain ⟨q8, hg⟩ := rf_g_some hg
        obtain ⟨k9, hk9, hg⟩ := rf_o_some hg
        refine rf_d_aaload C (n := 24) (q := k9) rfl (rf_in_of q8) hk9 (by decide +kernel) ?_
        obtain ⟨q10, hg⟩ := rf_g_some hg
        obtain ⟨q11, hg⟩ := rf_g_some hg
        obtain ⟨q12, hg⟩ := rf_g_some hg
        obtain ⟨q13, hg⟩ := rf_g_some hg
        obtain ⟨q14, hg⟩ := rf_g_some hg
        show rf_V 4 (rf_sh w) K 0 0 64 ([(0, .ref 206), (1, .int a1), (2, .int a2), (3, .int a3)], [.ref k9, .ref 206], rf_MM w m7)
        obtain ⟨y15, m15, hc15, hg⟩ := rf_b_some hg
        refine rf_callv C rf_fit0 j_X14_sumOf (ci := 14) (As := [.ref k9]) (rest := []) mw_X14_sumOf (c_X14_sumOf hc15) (by decide) rfl (by decide) lk_14_476 rfl rfl (Nat.le_of_ble_eq_true rfl) (by decide +kernel) ?_
        show rf_V 4 (rf_sh w) K 0 0 67 ([(0, .ref 206), (1, .int a1), (2, .int a2), (3, .int a3)], [.int y15], rf_MM w m15)
        obtain rfl := Option.some.inj hg
        exact rf_iret C hE (by decide +kernel)
theorem s_X14_latest_28 {w : rf_w} {K : rf_K} {r : Int32 × rf_m} (C : rf_Ctx 14 cX14_latest 4 5 (rf_sh w) K) (hE : rf_End (some .int) K (rf_sh w) 0 0 (some (.int r.1)) (rf_MM w r.2)) (n : Nat) : ∀ (a1 : Int32) (a2 : Int32) (a3 : Int32) (m : rf_m), g_X14_latest_28 w n a1 a2 a3 m = some r → rf_V 4 (rf_sh w) K 0 0 28 ([(0, .ref 206), (1, .int a1), (2, .int a2), (3, .int a3)], [], rf_MM w m) := by
  induction n with
  | zero => intro a1 a2 a3 m hg; cases hg
  | succ n ih => intro a1 a2 a3 m hg; exact s_X14_latest_28_b C hE ih a1 a2 a3 m hg
theorem s_X14_latest_2_b {w : rf_w} {K : rf_K} {r : Int32 × rf_m} (C : rf_Ctx 14 cX14_latest 4 5 (rf_sh w) K) (hE : rf_End (some .int) K (rf_sh w) 0 0 (some (.int r.1)) (rf_MM w r.2)) {rec2 : Int32 → Int32 → Int32 → rf_m → Option (Int32 × rf_m)} (hr2 : ∀ (a1 : Int32) (a2 : Int32) (a3 : Int32) (m : rf_m), rec2 a1 a2 a3 m = some r → rf_V 4 (rf_sh w) K 0 0 2 ([(0, .ref 206), (1, .int a1), (2, .int a2), (3, .int a3)], [], rf_MM w m)) (a1 : Int32) (a2 : Int32) (a3 : Int32) (m : rf_m) (hg : g_X14_latest_2_b w rec2 a1 a2 a3 m = some r) : rf_V 4 (rf_sh w) K 0 0 2 ([(0, .ref 206), (1, .int a1), (2, .int a2), (3, .int a3)], [], rf_MM w m) := by
  unfold g_X14_latest_2_b at hg
  refine rf_seg C [(.iload 3, 1), (.iconst 7, 2)] (pc' := 5) (S' := ([(0, .ref 206), (1, .int a1), (2, .int a2), (3, .int a3)], [.int 7, .int a3], rf_MM w m)) (by decide +kernel) rfl trivial ?_
  refine rf_icmp_ge C 16 21 (by decide +kernel) (fun hc => ?_) (fun hc => ?_)
  · replace hg := (if_pos hc).symm.trans hg
    refine rf_seg C [(.aload 0, 1), (.invokeinterface 14 39, 3), (.iconst 1, 1), (.isub, 1), (.istore 3, 1)] (pc' := 28) (S' := ([(3, .int ((m.1 206 39) - 1)), (0, .ref 206), (1, .int a1), (2, .int a2)], [], rf_MM w m)) (by decide +kernel) rfl trivial ?_
    refine rf_few [1, 2, 3, 0] rfl ?_
    exact s_X14_latest_28 C hE rf_fuel a1 a2 ((m.1 206 39) - 1) m hg
  · replace hg := (if_neg hc).symm.trans hg
    obtain ⟨q0, hg⟩ := rf_g_some hg
    refine rf_seg C [(.aload 0, 1), (.invokeinterface 14 32, 3), (.iload 3, 1), (.iconst 0, 1), (.iastore, 1), (.iinc 3 1, 3)] (pc' := 18) (S' := ([(3, .int (a3 + 1)), (0, .ref 206), (1, .int a1), (2, .int a2)], [], rf_MM w (rf_i m 228 (Int32.toNatClampNeg a3) 0))) (by decide +kernel) rfl (rf_in_of q0) ?_
    refine rf_goto C (-16) 2 (by decide +kernel) ?_
    refine rf_few [1, 2, 3, 0] rfl ?_
    exact hr2 a1 a2 (a3 + 1) (rf_i m 228 (Int32.toNatClampNeg a3) 0) hg
theorem s_X14_latest_2 {w : rf_w} {K : rf_K} {r : Int32 × rf_m} (C : rf_Ctx 14 cX14_latest 4 5 (rf_sh w) K) (hE : rf_End (some .int) K (rf_sh w) 0 0 (some (.int r.1)) (rf_MM w r.2)) (n : Nat) : ∀ (a1 : Int32) (a2 : Int32) (a3 : Int32) (m : rf_m), g_X14_latest_2 w n a1 a2 a3 m = some r → rf_V 4 (rf_sh w) K 0 0 2 ([(0, .ref 206), (1, .int a1), (2, .int a2), (3, .int a3)], [], rf_MM w m) := by
  induction n with
  | zero => intro a1 a2 a3 m hg; cases hg
  | succ n ih => intro a1 a2 a3 m hg; exact s_X14_latest_2_b C hE ih a1 a2 a3 m hg
theorem c_X14_latest {w : rf_w} {m : rf_m} {a1 : Int32} {a2 : Int32} {r : Int32 × rf_m} (hg : g_X14_latest w m a1 a2 = some r) : rf_Con j_X14_latest 5 (rf_sh w) [.ref 206, .int a1, .int a2] (rf_MM w m) (some (.int r.1)) (rf_MM w r.2) := by
  refine rf_con j_X14_latest 5 ⟨by decide +kernel, rfl, Nat.le_of_ble_eq_true rfl⟩ (fun K C hE => ?_)
  unfold g_X14_latest at hg
  show rf_V 4 (rf_sh w) K 0 0 0 ([(0, .ref 206), (1, .int a1), (2, .int a2)], [], rf_MM w m)
  refine rf_seg C [(.iconst 0, 1), (.istore 3, 1)] (pc' := 2) (S' := ([(3, .int 0), (0, .ref 206), (1, .int a1), (2, .int a2)], [], rf_MM w m)) (by decide +kernel) rfl trivial ?_
  refine rf_few [1, 2, 3, 0] rfl ?_
  exact s_X14_latest_2 C hE rf_fuel a1 a2 0 m hg
-- X14_allowed
abbrev j_X14_allowed : rf_J := (14, yX14_allowed, cX14_allowed, 1, (some .int))
theorem mw_X14_allowed : rf_mv j_X14_allowed (rf_R 14) 0 := ⟨⟨rf_mem 52 (by decide +kernel), rf_mem 52 (by decide +kernel), rf_mem 0 (by decide +kernel), rf_mem 52 (by decide +kernel)⟩, by decide +kernel, by decide⟩
def g_X14_allowed (w : rf_w) (m : rf_m) : Option (Int32 × rf_m) := rf_b (g_X14_latest w m 4 100) fun y0 m0 => rf_b (g_max w m0 0 y0) fun y1 m1 => some (y1, m1)
theorem c_X14_allowed {w : rf_w} {m : rf_m} {r : Int32 × rf_m} (hg : g_X14_allowed w m = some r) : rf_Con j_X14_allowed 6 (rf_sh w) [.ref 206] (rf_MM w m) (some (.int r.1)) (rf_MM w r.2) := by
  refine rf_con j_X14_allowed 6 ⟨by decide +kernel, rfl, Nat.le_of_ble_eq_true rfl⟩ (fun K C hE => ?_)
  unfold g_X14_allowed at hg
  show rf_V 1 (rf_sh w) K 0 0 0 ([(0, .ref 206)], [], rf_MM w m)
  refine rf_seg C [(.iconst 0, 1), (.aload 0, 1), (.iconst 4, 1), (.iconst 100, 2)] (pc' := 5) (S' := ([(0, .ref 206)], [.int 100, .int 4, .ref 206, .int 0], rf_MM w m)) (by decide +kernel) rfl trivial ?_
  obtain ⟨y0, m0, hc0, hg⟩ := rf_b_some hg
  refine rf_callv C rf_fit0 j_X14_latest (ci := 14) (As := [.int 4, .int 100]) (rest := [.int 0]) mw_X14_latest (c_X14_latest hc0) (by decide) rfl (by decide) lk_14_660 rfl rfl (Nat.le_of_ble_eq_true rfl) (by decide +kernel) ?_
  show rf_V 1 (rf_sh w) K 0 0 8 ([(0, .ref 206)], [.int y0, .int 0], rf_MM w m0)
  obtain ⟨y1, m1, hc1, hg⟩ := rf_b_some hg
  refine rf_calls C rf_fit0 j_max (As := [.int 0, .int y0]) (rest := []) mw_max (c_max hc1) (by decide) lk_14_375 rfl rfl (Nat.le_of_ble_eq_true rfl) (by decide +kernel) ?_
  show rf_V 1 (rf_sh w) K 0 0 11 ([(0, .ref 206)], [.int y1], rf_MM w m1)
  obtain rfl := Option.some.inj hg
  exact rf_iret C hE (by decide +kernel)
-- X14_told
abbrev j_X14_told : rf_J := (14, yX14_told, cX14_told, 2, (some .int))
theorem mw_X14_told : rf_mv j_X14_told (rf_R 14) 1 := ⟨⟨rf_mem 52 (by decide +kernel), rf_mem 52 (by decide +kernel), rf_mem 0 (by decide +kernel), rf_mem 52 (by decide +kernel)⟩, by decide +kernel, by decide⟩
def g_X14_told (w : rf_w) (m : rf_m) (a1 : Int32) : Option (Int32 × rf_m) := (if a1 = 0 then rf_b (g_X14_latest w (rf_i m 206 0 0) 3 0) fun y1 m1 => some (y1, m1) else (if a1 = 1 then rf_b (g_X14_allowed w (rf_i m 206 0 0)) fun y0 m0 => some (y0, m0) else some ((-1), rf_i m 206 0 0)))
theorem c_X14_told {w : rf_w} {m : rf_m} {a1 : Int32} {r : Int32 × rf_m} (hg : g_X14_told w m a1 = some r) : rf_Con j_X14_told 7 (rf_sh w) [.ref 206, .int a1] (rf_MM w m) (some (.int r.1)) (rf_MM w r.2) := by
  refine rf_con j_X14_told 7 ⟨by decide +kernel, rfl, Nat.le_of_ble_eq_true rfl⟩ (fun K C hE => ?_)
  unfold g_X14_told at hg
  show rf_V 2 (rf_sh w) K 0 0 0 ([(0, .ref 206), (1, .int a1)], [], rf_MM w m)
  refine rf_seg C [(.aload 0, 1), (.iconst 0, 1), (.multianewarray 14 0, 3), (.iload 1, 1)] (pc' := 6) (S' := ([(0, .ref 206), (1, .int a1)], [.int a1], rf_MM w (rf_i m 206 0 0))) (by decide +kernel) rfl trivial ?_
  refine rf_if_ne C 12 18 (by decide +kernel) (fun hc => ?_) (fun hc => ?_)
  · replace hg := (if_neg hc).symm.trans hg
    refine rf_seg C [(.iload 1, 1), (.iconst 1, 1)] (pc' := 20) (S' := ([(0, .ref 206), (1, .int a1)], [.int 1, .int a1], rf_MM w (rf_i m 206 0 0))) (by decide +kernel) rfl trivial ?_
    refine rf_icmp_ne C 10 30 (by decide +kernel) (fun hc => ?_) (fun hc => ?_)
    · replace hg := (if_neg hc).symm.trans hg
      refine rf_seg C [(.iconst (-1), 1)] (pc' := 31) (S' := ([(0, .ref 206), (1, .int a1)], [.int ((-1))], rf_MM w (rf_i m 206 0 0))) (by decide +kernel) rfl trivial ?_
      obtain rfl := Option.some.inj hg
      exact rf_iret C hE (by decide +kernel)
    · replace hg := (if_pos hc).symm.trans hg
      refine rf_seg C [(.aload 0, 1)] (pc' := 24) (S' := ([(0, .ref 206), (1, .int a1)], [.ref 206], rf_MM w (rf_i m 206 0 0))) (by decide +kernel) rfl trivial ?_
      obtain ⟨y0, m0, hc0, hg⟩ := rf_b_some hg
      refine rf_callv C rf_fit0 j_X14_allowed (ci := 14) (As := []) (rest := []) mw_X14_allowed (c_X14_allowed hc0) (by decide) rfl (by decide) lk_14_663 rfl rfl (Nat.le_of_ble_eq_true rfl) (by decide +kernel) ?_
      show rf_V 2 (rf_sh w) K 0 0 27 ([(0, .ref 206), (1, .int a1)], [.int y0], rf_MM w m0)
      refine rf_goto C 4 31 (by decide +kernel) ?_
      obtain rfl := Option.some.inj hg
      exact rf_iret C hE (by decide +kernel)
  · replace hg := (if_pos hc).symm.trans hg
    refine rf_seg C [(.aload 0, 1), (.iconst 3, 1), (.iconst 0, 1)] (pc' := 12) (S' := ([(0, .ref 206), (1, .int a1)], [.int 0, .int 3, .ref 206], rf_MM w (rf_i m 206 0 0))) (by decide +kernel) rfl trivial ?_
    obtain ⟨y1, m1, hc1, hg⟩ := rf_b_some hg
    refine rf_callv C rf_fit0 j_X14_latest (ci := 14) (As := [.int 3, .int 0]) (rest := []) mw_X14_latest (c_X14_latest hc1) (by decide) rfl (by decide) lk_14_660 rfl rfl (Nat.le_of_ble_eq_true rfl) (by decide +kernel) ?_
    show rf_V 2 (rf_sh w) K 0 0 15 ([(0, .ref 206), (1, .int a1)], [.int y1], rf_MM w m1)
    refine rf_goto C 16 31 (by decide +kernel) ?_
    obtain rfl := Option.some.inj hg
    exact rf_iret C hE (by decide +kernel)
-- X14_isBase
abbrev j_X14_isBase : rf_J := (14, yX14_isBase, cX14_isBase, 2, (some .boolean))
theorem mw_X14_isBase : rf_mv j_X14_isBase (rf_R 14) 1 := ⟨⟨rf_mem 54 (by decide +kernel), rf_mem 54 (by decide +kernel), rf_mem 0 (by decide +kernel), rf_mem 54 (by decide +kernel)⟩, by decide +kernel, by decide⟩
def g_X14_isBase (w : rf_w) (m : rf_m) (a1 : Int32) : Option (Int32 × rf_m) := (if a1 < 0 then some (0, m) else (if (m.1 206 55) ≤ a1 then some (0, m) else some (1, m)))
theorem c_X14_isBase {w : rf_w} {m : rf_m} {a1 : Int32} {r : Int32 × rf_m} (hg : g_X14_isBase w m a1 = some r) : rf_Con j_X14_isBase 1 (rf_sh w) [.ref 206, .int a1] (rf_MM w m) (some (.int r.1)) (rf_MM w r.2) := by
  refine rf_con j_X14_isBase 1 ⟨by decide +kernel, rfl, Nat.le_of_ble_eq_true rfl⟩ (fun K C hE => ?_)
  unfold g_X14_isBase at hg
  show rf_V 2 (rf_sh w) K 0 0 0 ([(0, .ref 206), (1, .int a1)], [], rf_MM w m)
  refine rf_seg C [(.iload 1, 1)] (pc' := 1) (S' := ([(0, .ref 206), (1, .int a1)], [.int a1], rf_MM w m)) (by decide +kernel) rfl trivial ?_
  refine rf_if_lt C 15 16 (by decide +kernel) (fun hc => ?_) (fun hc => ?_)
  · replace hg := (if_pos hc).symm.trans hg
    refine rf_seg C [(.iconst 0, 1)] (pc' := 17) (S' := ([(0, .ref 206), (1, .int a1)], [.int 0], rf_MM w m)) (by decide +kernel) rfl trivial ?_
    obtain rfl := Option.some.inj hg
    exact rf_zret C hE (by decide) (by decide +kernel)
  · replace hg := (if_neg hc).symm.trans hg
    refine rf_seg C [(.iload 1, 1), (.aload 0, 1), (.invokeinterface 14 55, 3)] (pc' := 9) (S' := ([(0, .ref 206), (1, .int a1)], [.int (m.1 206 55), .int a1], rf_MM w m)) (by decide +kernel) rfl trivial ?_
    refine rf_icmp_ge C 7 16 (by decide +kernel) (fun hc => ?_) (fun hc => ?_)
    · replace hg := (if_pos hc).symm.trans hg
      refine rf_seg C [(.iconst 0, 1)] (pc' := 17) (S' := ([(0, .ref 206), (1, .int a1)], [.int 0], rf_MM w m)) (by decide +kernel) rfl trivial ?_
      obtain rfl := Option.some.inj hg
      exact rf_zret C hE (by decide) (by decide +kernel)
    · replace hg := (if_neg hc).symm.trans hg
      refine rf_seg C [(.iconst 1, 1)] (pc' := 13) (S' := ([(0, .ref 206), (1, .int a1)], [.int 1], rf_MM w m)) (by decide +kernel) rfl trivial ?_
      refine rf_goto C 4 17 (by decide +kernel) ?_
      obtain rfl := Option.some.inj hg
      exact rf_zret C hE (by decide) (by decide +kernel)
-- X14_isOf
abbrev j_X14_isOf : rf_J := (14, yX14_isOf, cX14_isOf, 4, (some .boolean))
theorem mw_X14_isOf : rf_mv j_X14_isOf (rf_R 14) 3 := ⟨⟨rf_mem 53 (by decide +kernel), rf_mem 53 (by decide +kernel), rf_mem 0 (by decide +kernel), rf_mem 53 (by decide +kernel)⟩, by decide +kernel, by decide⟩
def g_X14_isOf_20 (w : rf_w) (a1 : Int32) (a2 : Int32) (a3 : Int32) (m : rf_m) : Option (Int32 × rf_m) := rf_g (rf_in a1 6) ((if (m.1 236 (Int32.toNatClampNeg a1)) = a3 then rf_g (rf_in a1 6) ((if (m.1 237 (Int32.toNatClampNeg a1)) = a2 then some (1, m) else some (0, m))) else some (0, m)))
def g_X14_isOf (w : rf_w) (m : rf_m) (a1 : Int32) (a2 : Int32) (a3 : Int32) : Option (Int32 × rf_m) := rf_g (rf_in a1 6) ((if (m.1 236 (Int32.toNatClampNeg a1)) = a2 then rf_g (rf_in a1 6) ((if (m.1 237 (Int32.toNatClampNeg a1)) = a3 then some (1, m) else g_X14_isOf_20 w a1 a2 a3 m)) else g_X14_isOf_20 w a1 a2 a3 m))
theorem s_X14_isOf_20 {w : rf_w} {K : rf_K} {r : Int32 × rf_m} (C : rf_Ctx 14 cX14_isOf 4 1 (rf_sh w) K) (hE : rf_End (some .boolean) K (rf_sh w) 0 0 (some (.int r.1)) (rf_MM w r.2)) (a1 : Int32) (a2 : Int32) (a3 : Int32) (m : rf_m) (hg : g_X14_isOf_20 w a1 a2 a3 m = some r) : rf_V 4 (rf_sh w) K 0 0 20 ([(0, .ref 206), (1, .int a1), (2, .int a2), (3, .int a3)], [], rf_MM w m) := by
  unfold g_X14_isOf_20 at hg
  obtain ⟨q0, hg⟩ := rf_g_some hg
  refine rf_seg C [(.aload 0, 1), (.invokeinterface 14 57, 3), (.iload 1, 1), (.iaload, 1), (.iload 3, 1)] (pc' := 27) (S' := ([(0, .ref 206), (1, .int a1), (2, .int a2), (3, .int a3)], [.int a3, .int (m.1 236 (Int32.toNatClampNeg a1))], rf_MM w m)) (by decide +kernel) rfl (rf_in_of q0) ?_
  refine rf_icmp_ne C 17 44 (by decide +kernel) (fun hc => ?_) (fun hc => ?_)
  · replace hg := (if_neg hc).symm.trans hg
    refine rf_seg C [(.iconst 0, 1)] (pc' := 45) (S' := ([(0, .ref 206), (1, .int a1), (2, .int a2), (3, .int a3)], [.int 0], rf_MM w m)) (by decide +kernel) rfl trivial ?_
    obtain rfl := Option.some.inj hg
    exact rf_zret C hE (by decide) (by decide +kernel)
  · replace hg := (if_pos hc).symm.trans hg
    obtain ⟨q1, hg⟩ := rf_g_some hg
    refine rf_seg C [(.aload 0, 1), (.invokeinterface 14 58, 3), (.iload 1, 1), (.iaload, 1), (.iload 2, 1)] (pc' := 37) (S' := ([(0, .ref 206), (1, .int a1), (2, .int a2), (3, .int a3)], [.int a2, .int (m.1 237 (Int32.toNatClampNeg a1))], rf_MM w m)) (by decide +kernel) rfl (rf_in_of q1) ?_
    refine rf_icmp_ne C 7 44 (by decide +kernel) (fun hc => ?_) (fun hc => ?_)
    · replace hg := (if_neg hc).symm.trans hg
      refine rf_seg C [(.iconst 0, 1)] (pc' := 45) (S' := ([(0, .ref 206), (1, .int a1), (2, .int a2), (3, .int a3)], [.int 0], rf_MM w m)) (by decide +kernel) rfl trivial ?_
      obtain rfl := Option.some.inj hg
      exact rf_zret C hE (by decide) (by decide +kernel)
    · replace hg := (if_pos hc).symm.trans hg
      refine rf_seg C [(.iconst 1, 1)] (pc' := 41) (S' := ([(0, .ref 206), (1, .int a1), (2, .int a2), (3, .int a3)], [.int 1], rf_MM w m)) (by decide +kernel) rfl trivial ?_
      refine rf_goto C 4 45 (by decide +kernel) ?_
      obtain rfl := Option.some.inj hg
      exact rf_zret C hE (by decide) (by decide +kernel)
theorem c_X14_isOf {w : rf_w} {m : rf_m} {a1 : Int32} {a2 : Int32} {a3 : Int32} {r : Int32 × rf_m} (hg : g_X14_isOf w m a1 a2 a3 = some r) : rf_Con j_X14_isOf 1 (rf_sh w) [.ref 206, .int a1, .int a2, .int a3] (rf_MM w m) (some (.int r.1)) (rf_MM w r.2) := by
  refine rf_con j_X14_isOf 1 ⟨by decide +kernel, rfl, Nat.le_of_ble_eq_true rfl⟩ (fun K C hE => ?_)
  unfold g_X14_isOf at hg
  show rf_V 4 (rf_sh w) K 0 0 0 ([(0, .ref 206), (1, .int a1), (2, .int a2), (3, .int a3)], [], rf_MM w m)
  obtain ⟨q0, hg⟩ := rf_g_some hg
  refine rf_seg C [(.aload 0, 1), (.invokeinterface 14 57, 3), (.iload 1, 1), (.iaload, 1), (.iload 2, 1)] (pc' := 7) (S' := ([(0, .ref 206), (1, .int a1), (2, .int a2), (3, .int a3)], [.int a2, .int (m.1 236 (Int32.toNatClampNeg a1))], rf_MM w m)) (by decide +kernel) rfl (rf_in_of q0) ?_
  refine rf_icmp_ne C 13 20 (by decide +kernel) (fun hc => ?_) (fun hc => ?_)
  · replace hg := (if_neg hc).symm.trans hg
    refine rf_few [0, 1, 2, 3] rfl ?_
    exact s_X14_isOf_20 C hE a1 a2 a3 m hg
  · replace hg := (if_pos hc).symm.trans hg
    obtain ⟨q1, hg⟩ := rf_g_some hg
    refine rf_seg C [(.aload 0, 1), (.invokeinterface 14 58, 3), (.iload 1, 1), (.iaload, 1), (.iload 3, 1)] (pc' := 17) (S' := ([(0, .ref 206), (1, .int a1), (2, .int a2), (3, .int a3)], [.int a3, .int (m.1 237 (Int32.toNatClampNeg a1))], rf_MM w m)) (by decide +kernel) rfl (rf_in_of q1) ?_
    refine rf_icmp_eq C 23 40 (by decide +kernel) (fun hc => ?_) (fun hc => ?_)
    · replace hg := (if_pos hc).symm.trans hg
      refine rf_seg C [(.iconst 1, 1)] (pc' := 41) (S' := ([(0, .ref 206), (1, .int a1), (2, .int a2), (3, .int a3)], [.int 1], rf_MM w m)) (by decide +kernel) rfl trivial ?_
      refine rf_goto C 4 45 (by decide +kernel) ?_
      obtain rfl := Option.some.inj hg
      exact rf_zret C hE (by decide) (by decide +kernel)
    · replace hg := (if_neg hc).symm.trans hg
      refine rf_few [0, 1, 2, 3] rfl ?_
      exact s_X14_isOf_20 C hE a1 a2 a3 m hg
-- X14_base
abbrev j_X14_base : rf_J := (14, yX14_base, cX14_base, 7, (some .int))
theorem mw_X14_base : rf_mv j_X14_base (rf_R 14) 3 := ⟨⟨rf_mem 53 (by decide +kernel), rf_mem 53 (by decide +kernel), rf_mem 0 (by decide +kernel), rf_mem 53 (by decide +kernel)⟩, by decide +kernel, by decide⟩
def g_X14_base_102 (w : rf_w) (rec53 : Int32 → Int32 → Int32 → Int32 → Int32 → Int32 → rf_m → Option (Int32 × rf_m)) (a1 : Int32) (a2 : Int32) (a3 : Int32) (a4 : Int32) (a5 : Int32) (a6 : Int32) (m : rf_m) : Option (Int32 × rf_m) := rec53 a1 a2 a3 a4 a5 (a6 + 1) m
def g_X14_base_100 (w : rf_w) (rec53 : Int32 → Int32 → Int32 → Int32 → Int32 → Int32 → rf_m → Option (Int32 × rf_m)) (a1 : Int32) (a2 : Int32) (a3 : Int32) (a4 : Int32) (a6 : Int32) (s0 : Int32) (m : rf_m) : Option (Int32 × rf_m) := g_X14_base_102 w rec53 a1 a2 a3 a4 s0 a6 m
def g_X14_base_95 (w : rf_w) (rec53 : Int32 → Int32 → Int32 → Int32 → Int32 → Int32 → rf_m → Option (Int32 × rf_m)) (a1 : Int32) (a2 : Int32) (a3 : Int32) (a4 : Int32) (a6 : Int32) (m : rf_m) : Option (Int32 × rf_m) := g_X14_base_100 w rec53 a1 a2 a3 a4 a6 1 m
def g_X14_base_53_b (w : rf_w) (rec53 : Int32 → Int32 → Int32 → Int32 → Int32 → Int32 → rf_m → Option (Int32 × rf_m)) (a1 : Int32) (a2 : Int32) (a3 : Int32) (a4 : Int32) (a5 : Int32) (a6 : Int32) (m : rf_m) : Option (Int32 × rf_m) := (if (m.1 206 55) ≤ a6 then (if a5 = 0 then (if a4 ≤ 1 then (if (m.1 206 55) = 6 then rf_b (g_X14_refused w m 3) fun y5 m5 => some (y5, m5) else rf_g (rf_in (m.1 206 55) 6) (rf_g (rf_in ((rf_i m 236 (Int32.toNatClampNeg (m.1 206 55)) a1).1 206 55) 6) (rf_g (rf_in ((rf_i (rf_i m 236 (Int32.toNatClampNeg (m.1 206 55)) a1) 237 (Int32.toNatClampNeg ((rf_i m 236 (Int32.toNatClampNeg (m.1 206 55)) a1).1 206 55)) a2).1 206 55) 6) (rf_b (g_X14_done w (rf_i (rf_i (rf_i (rf_i m 236 (Int32.toNatClampNeg (m.1 206 55)) a1) 237 (Int32.toNatClampNeg ((rf_i m 236 (Int32.toNatClampNeg (m.1 206 55)) a1).1 206 55)) a2) 238 (Int32.toNatClampNeg ((rf_i (rf_i m 236 (Int32.toNatClampNeg (m.1 206 55)) a1) 237 (Int32.toNatClampNeg ((rf_i m 236 (Int32.toNatClampNeg (m.1 206 55)) a1).1 206 55)) a2).1 206 55)) a3) 206 55 (((rf_i (rf_i (rf_i m 236 (Int32.toNatClampNeg (m.1 206 55)) a1) 237 (Int32.toNatClampNeg ((rf_i m 236 (Int32.toNatClampNeg (m.1 206 55)) a1).1 206 55)) a2) 238 (Int32.toNatClampNeg ((rf_i (rf_i m 236 (Int32.toNatClampNeg (m.1 206 55)) a1) 237 (Int32.toNatClampNeg ((rf_i m 236 (Int32.toNatClampNeg (m.1 206 55)) a1).1 206 55)) a2).1 206 55)) a3).1 206 55) + 1)) (((rf_i (rf_i (rf_i (rf_i m 236 (Int32.toNatClampNeg (m.1 206 55)) a1) 237 (Int32.toNatClampNeg ((rf_i m 236 (Int32.toNatClampNeg (m.1 206 55)) a1).1 206 55)) a2) 238 (Int32.toNatClampNeg ((rf_i (rf_i m 236 (Int32.toNatClampNeg (m.1 206 55)) a1) 237 (Int32.toNatClampNeg ((rf_i m 236 (Int32.toNatClampNeg (m.1 206 55)) a1).1 206 55)) a2).1 206 55)) a3) 206 55 (((rf_i (rf_i (rf_i m 236 (Int32.toNatClampNeg (m.1 206 55)) a1) 237 (Int32.toNatClampNeg ((rf_i m 236 (Int32.toNatClampNeg (m.1 206 55)) a1).1 206 55)) a2) 238 (Int32.toNatClampNeg ((rf_i (rf_i m 236 (Int32.toNatClampNeg (m.1 206 55)) a1) 237 (Int32.toNatClampNeg ((rf_i m 236 (Int32.toNatClampNeg (m.1 206 55)) a1).1 206 55)) a2).1 206 55)) a3).1 206 55) + 1)).1 206 55) - 1)) fun y4 m4 => some (y4, m4))))) else rf_b (g_X14_refused w m 5) fun y6 m6 => some (y6, m6)) else rf_b (g_X14_refused w m 5) fun y0 m0 => some (y0, m0)) else rf_b (g_X14_isOf w m a6 a1 a2) fun y7 m7 => (if y7 = 0 then g_X14_base_102 w rec53 a1 a2 a3 a4 a5 a6 m7 else (if a5 = 0 then rf_g (rf_in a6 6) ((if (m7.1 238 (Int32.toNatClampNeg a6)) = a3 then g_X14_base_95 w rec53 a1 a2 a3 (a4 + 1) a6 m7 else g_X14_base_100 w rec53 a1 a2 a3 (a4 + 1) a6 0 m7)) else g_X14_base_95 w rec53 a1 a2 a3 (a4 + 1) a6 m7)))
def g_X14_base_53 (w : rf_w) : Nat → Int32 → Int32 → Int32 → Int32 → Int32 → Int32 → rf_m → Option (Int32 × rf_m)
  | 0, _, _, _, _, _, _, _ => none
  | n + 1, a1, a2, a3, a4, a5, a6, m => g_X14_base_53_b w (g_X14_base_53 w n) a1 a2 a3 a4 a5 a6 m
def g_X14_base_48 (w : rf_w) (a1 : Int32) (a2 : Int32) (a3 : Int32) (a4 : Int32) (s0 : Int32) (m : rf_m) : Option (Int32 × rf_m) := g_X14_base_53 w rf_fuel a1 a2 a3 a4 s0 0 m
def g_X14_base (w : rf_w) (m : rf_m) (a1 : Int32) (a2 : Int32) (a3 : Int32) : Option (Int32 × rf_m) := rf_b (g_X14_isMark w (rf_i m 206 0 0) a1) fun y0 m0 => (if y0 = 0 then rf_b (g_X14_refused w m0 1) fun y1 m1 => some (y1, m1) else rf_b (g_X14_isMark w m0 a2) fun y2 m2 => (if y2 = 0 then rf_b (g_X14_refused w m2 1) fun y3 m3 => some (y3, m3) else rf_b (g_X14_isParty w m2 a3) fun y4 m4 => (if y4 = 0 then rf_b (g_X14_refused w m4 1) fun y5 m5 => some (y5, m5) else (if a1 = a2 then g_X14_base_48 w a1 a2 a3 0 1 m4 else g_X14_base_48 w a1 a2 a3 0 0 m4))))
theorem s_X14_base_102 {w : rf_w} {K : rf_K} {r : Int32 × rf_m} (C : rf_Ctx 14 cX14_base 7 2 (rf_sh w) K) (hE : rf_End (some .int) K (rf_sh w) 0 0 (some (.int r.1)) (rf_MM w r.2)) {rec53 : Int32 → Int32 → Int32 → Int32 → Int32 → Int32 → rf_m → Option (Int32 × rf_m)} (hr53 : ∀ (a1 : Int32) (a2 : Int32) (a3 : Int32) (a4 : Int32) (a5 : Int32) (a6 : Int32) (m : rf_m), rec53 a1 a2 a3 a4 a5 a6 m = some r → rf_V 7 (rf_sh w) K 0 0 53 ([(0, .ref 206), (1, .int a1), (2, .int a2), (3, .int a3), (4, .int a4), (5, .int a5), (6, .int a6)], [], rf_MM w m)) (a1 : Int32) (a2 : Int32) (a3 : Int32) (a4 : Int32) (a5 : Int32) (a6 : Int32) (m : rf_m) (hg : g_X14_base_102 w rec53 a1 a2 a3 a4 a5 a6 m = some r) : rf_V 7 (rf_sh w) K 0 0 102 ([(0, .ref 206), (1, .int a1), (2, .int a2), (3, .int a3), (4, .int a4), (5, .int a5), (6, .int a6)], [], rf_MM w m) := by
  unfold g_X14_base_102 at hg
  refine rf_seg C [(.iinc 6 1, 3)] (pc' := 105) (S' := ([(6, .int (a6 + 1)), (0, .ref 206), (1, .int a1), (2, .int a2), (3, .int a3), (4, .int a4), (5, .int a5)], [], rf_MM w m)) (by decide +kernel) rfl trivial ?_
  refine rf_goto C (-52) 53 (by decide +kernel) ?_
  refine rf_few [1, 2, 3, 4, 5, 6, 0] rfl ?_
  exact hr53 a1 a2 a3 a4 a5 (a6 + 1) m hg
theorem s_X14_base_100 {w : rf_w} {K : rf_K} {r : Int32 × rf_m} (C : rf_Ctx 14 cX14_base 7 2 (rf_sh w) K) (hE : rf_End (some .int) K (rf_sh w) 0 0 (some (.int r.1)) (rf_MM w r.2)) {rec53 : Int32 → Int32 → Int32 → Int32 → Int32 → Int32 → rf_m → Option (Int32 × rf_m)} (hr53 : ∀ (a1 : Int32) (a2 : Int32) (a3 : Int32) (a4 : Int32) (a5 : Int32) (a6 : Int32) (m : rf_m), rec53 a1 a2 a3 a4 a5 a6 m = some r → rf_V 7 (rf_sh w) K 0 0 53 ([(0, .ref 206), (1, .int a1), (2, .int a2), (3, .int a3), (4, .int a4), (5, .int a5), (6, .int a6)], [], rf_MM w m)) (a1 : Int32) (a2 : Int32) (a3 : Int32) (a4 : Int32) (a6 : Int32) (s0 : Int32) (m : rf_m) (hg : g_X14_base_100 w rec53 a1 a2 a3 a4 a6 s0 m = some r) : rf_V 7 (rf_sh w) K 0 0 100 ([(0, .ref 206), (1, .int a1), (2, .int a2), (3, .int a3), (4, .int a4), (6, .int a6)], [.int s0], rf_MM w m) := by
  unfold g_X14_base_100 at hg
  refine rf_seg C [(.istore 5, 2)] (pc' := 102) (S' := ([(5, .int s0), (0, .ref 206), (1, .int a1), (2, .int a2), (3, .int a3), (4, .int a4), (6, .int a6)], [], rf_MM w m)) (by decide +kernel) rfl trivial ?_
  refine rf_few [1, 2, 3, 4, 5, 0, 6] rfl ?_
  exact s_X14_base_102 C hE hr53 a1 a2 a3 a4 s0 a6 m hg
theorem s_X14_base_95 {w : rf_w} {K : rf_K} {r : Int32 × rf_m} (C : rf_Ctx 14 cX14_base 7 2 (rf_sh w) K) (hE : rf_End (some .int) K (rf_sh w) 0 0 (some (.int r.1)) (rf_MM w r.2)) {rec53 : Int32 → Int32 → Int32 → Int32 → Int32 → Int32 → rf_m → Option (Int32 × rf_m)} (hr53 : ∀ (a1 : Int32) (a2 : Int32) (a3 : Int32) (a4 : Int32) (a5 : Int32) (a6 : Int32) (m : rf_m), rec53 a1 a2 a3 a4 a5 a6 m = some r → rf_V 7 (rf_sh w) K 0 0 53 ([(0, .ref 206), (1, .int a1), (2, .int a2), (3, .int a3), (4, .int a4), (5, .int a5), (6, .int a6)], [], rf_MM w m)) (a1 : Int32) (a2 : Int32) (a3 : Int32) (a4 : Int32) (a6 : Int32) (m : rf_m) (hg : g_X14_base_95 w rec53 a1 a2 a3 a4 a6 m = some r) : rf_V 7 (rf_sh w) K 0 0 95 ([(0, .ref 206), (1, .int a1), (2, .int a2), (3, .int a3), (4, .int a4), (6, .int a6)], [], rf_MM w m) := by
  unfold g_X14_base_95 at hg
  refine rf_seg C [(.iconst 1, 1)] (pc' := 96) (S' := ([(0, .ref 206), (1, .int a1), (2, .int a2), (3, .int a3), (4, .int a4), (6, .int a6)], [.int 1], rf_MM w m)) (by decide +kernel) rfl trivial ?_
  refine rf_goto C 4 100 (by decide +kernel) ?_
  refine rf_few [0, 1, 2, 3, 4, 5] rfl ?_
  exact s_X14_base_100 C hE hr53 a1 a2 a3 a4 a6 1 m hg
theorem s_X14_base_53_b {w : rf_w} {K : rf_K} {r : Int32 × rf_m} (C : rf_Ctx 14 cX14_base 7 2 (rf_sh w) K) (hE : rf_End (some .int) K (rf_sh w) 0 0 (some (.int r.1)) (rf_MM w r.2)) {rec53 : Int32 → Int32 → Int32 → Int32 → Int32 → Int32 → rf_m → Option (Int32 × rf_m)} (hr53 : ∀ (a1 : Int32) (a2 : Int32) (a3 : Int32) (a4 : Int32) (a5 : Int32) (a6 : Int32) (m : rf_m), rec53 a1 a2 a3 a4 a5 a6 m = some r → rf_V 7 (rf_sh w) K 0 0 53 ([(0, .ref 206), (1, .int a1), (2, .int a2), (3, .int a3), (4, .int a4), (5, .int a5), (6, .int a6)], [], rf_MM w m)) (a1 : Int32) (a2 : Int32) (a3 : Int32) (a4 : Int32) (a5 : Int32) (a6 : Int32) (m : rf_m) (hg : g_X14_base_53_b w rec53 a1 a2 a3 a4 a5 a6 m = some r) : rf_V 7 (rf_sh w) K 0 0 53 ([(0, .ref 206), (1, .int a1), (2, .int a2), (3, .int a3), (4, .int a4), (5, .int a5), (6, .int a6)], [], rf_MM w m) := by
  unfold g_X14_base_53_b at hg
  refine rf_seg C [(.iload 6, 2), (.aload 0, 1), (.invokeinterface 14 55, 3)] (pc' := 59) (S' := ([(0, .ref 206), (1, .int a1), (2, .int a2), (3, .int a3), (4, .int a4), (5, .int a5), (6, .int a6)], [.int (m.1 206 55), .int a6], rf_MM w m)) (by decide +kernel) rfl trivial ?_
  refine rf_icmp_ge C 49 108 (by decide +kernel) (fun hc => ?_) (fun hc => ?_)
  · replace hg := (if_pos hc).symm.trans hg
    refine rf_seg C [(.iload 5, 2)] (pc' := 110) (S' := ([(0, .ref 206), (1, .int a1), (2, .int a2), (3, .int a3), (4, .int a4), (5, .int a5), (6, .int a6)], [.int a5], rf_MM w m)) (by decide +kernel) rfl trivial ?_
    refine rf_if_ne C 9 119 (by decide +kernel) (fun hc => ?_) (fun hc => ?_)
    · replace hg := (if_neg hc).symm.trans hg
      refine rf_seg C [(.aload 0, 1), (.iconst 5, 1)] (pc' := 121) (S' := ([(0, .ref 206), (1, .int a1), (2, .int a2), (3, .int a3), (4, .int a4), (5, .int a5), (6, .int a6)], [.int 5, .ref 206], rf_MM w m)) (by decide +kernel) rfl trivial ?_
      obtain ⟨y0, m0, hc0, hg⟩ := rf_b_some hg
      refine rf_callv C rf_fit0 j_X14_refused (ci := 14) (As := [.int 5]) (rest := []) mw_X14_refused (c_X14_refused hc0) (by decide) rfl (by decide) lk_14_353 rfl rfl (Nat.le_of_ble_eq_true rfl) (by decide +kernel) ?_
      show rf_V 7 (rf_sh w) K 0 0 124 ([(0, .ref 206), (1, .int a1), (2, .int a2), (3, .int a3), (4, .int a4), (5, .int a5), (6, .int a6)], [.int y0], rf_MM w m0)
      obtain rfl := Option.some.inj hg
      exact rf_iret C hE (by decide +kernel)
    · replace hg := (if_pos hc).symm.trans hg
      refine rf_seg C [(.iload 4, 2), (.iconst 1, 1)] (pc' := 116) (S' := ([(0, .ref 206), (1, .int a1), (2, .int a2), (3, .int a3), (4, .int a4), (5, .int a5), (6, .int a6)], [.int 1, .int a4], rf_MM w m)) (by decide +kernel) rfl trivial ?_
      refine rf_icmp_le C 9 125 (by decide +kernel) (fun hc => ?_) (fun hc => ?_)
      · replace hg := (if_pos hc).symm.trans hg
        refine rf_seg C [(.aload 0, 1), (.invokeinterface 14 55, 3), (.iconst 6, 2)] (pc' := 131) (S' := ([(0, .ref 206), (1, .int a1), (2, .int a2), (3, .int a3), (4, .int a4), (5, .int a5), (6, .int a6)], [.int 6, .int (m.1 206 55)], rf_MM w m)) (by decide +kernel) rfl trivial ?_
        refine rf_icmp_ne C 9 140 (by decide +kernel) (fun hc => ?_) (fun hc => ?_)
        · replace hg := (if_neg hc).symm.trans hg
          obtain ⟨q1, hg⟩ := rf_g_some hg
          obtain ⟨q2, hg⟩ := rf_g_some hg
          obtain ⟨q3, hg⟩ := rf_g_some hg
          refine rf_seg C [(.aload 0, 1), (.invokeinterface 14 57, 3), (.aload 0, 1), (.invokeinterface 14 55, 3), (.iload 1, 1), (.iastore, 1), (.aload 0, 1), (.invokeinterface 14 58, 3), (.aload 0, 1), (.invokeinterface 14 55, 3), (.iload 2, 1), (.iastore, 1), (.aload 0, 1), (.invokeinterface 14 59, 3), (.aload 0, 1), (.invokeinterface 14 55, 3), (.iload 3, 1), (.iastore, 1), (.aload 0, 1), (.dup, 1), (.invokeinterface 14 55, 3), (.iconst 1, 1), (.iadd, 1), (.multianewarray 14 55, 3), (.aload 0, 1), (.aload 0, 1), (.invokeinterface 14 55, 3), (.iconst 1, 1), (.isub, 1)] (pc' := 187) (S' := ([(0, .ref 206), (1, .int a1), (2, .int a2), (3, .int a3), (4, .int a4), (5, .int a5), (6, .int a6)], [.int (((rf_i (rf_i (rf_i (rf_i m 236 (Int32.toNatClampNeg (m.1 206 55)) a1) 237 (Int32.toNatClampNeg ((rf_i m 236 (Int32.toNatClampNeg (m.1 206 55)) a1).1 206 55)) a2) 238 (Int32.toNatClampNeg ((rf_i (rf_i m 236 (Int32.toNatClampNeg (m.1 206 55)) a1) 237 (Int32.toNatClampNeg ((rf_i m 236 (Int32.toNatClampNeg (m.1 206 55)) a1).1 206 55)) a2).1 206 55)) a3) 206 55 (((rf_i (rf_i (rf_i m 236 (Int32.toNatClampNeg (m.1 206 55)) a1) 237 (Int32.toNatClampNeg ((rf_i m 236 (Int32.toNatClampNeg (m.1 206 55)) a1).1 206 55)) a2) 238 (Int32.toNatClampNeg ((rf_i (rf_i m 236 (Int32.toNatClampNeg (m.1 206 55)) a1) 237 (Int32.toNatClampNeg ((rf_i m 236 (Int32.toNatClampNeg (m.1 206 55)) a1).1 206 55)) a2).1 206 55)) a3).1 206 55) + 1)).1 206 55) - 1), .ref 206], rf_MM w (rf_i (rf_i (rf_i (rf_i m 236 (Int32.toNatClampNeg (m.1 206 55)) a1) 237 (Int32.toNatClampNeg ((rf_i m 236 (Int32.toNatClampNeg (m.1 206 55)) a1).1 206 55)) a2) 238 (Int32.toNatClampNeg ((rf_i (rf_i m 236 (Int32.toNatClampNeg (m.1 206 55)) a1) 237 (Int32.toNatClampNeg ((rf_i m 236 (Int32.toNatClampNeg (m.1 206 55)) a1).1 206 55)) a2).1 206 55)) a3) 206 55 (((rf_i (rf_i (rf_i m 236 (Int32.toNatClampNeg (m.1 206 55)) a1) 237 (Int32.toNatClampNeg ((rf_i m 236 (Int32.toNatClampNeg (m.1 206 55)) a1).1 206 55)) a2) 238 (Int32.toNatClampNeg ((rf_i (rf_i m 236 (Int32.toNatClampNeg (m.1 206 55)) a1) 237 (Int32.toNatClampNeg ((rf_i m 236 (Int32.toNatClampNeg (m.1 206 55)) a1).1 206 55)) a2).1 206 55)) a3).1 206 55) + 1)))) (by decide +kernel) rfl (by exact ⟨(rf_in_of q1), (rf_in_of q2), (rf_in_of q3)⟩) ?_
          obtain ⟨y4, m4, hc4, hg⟩ := rf_b_some hg
          refine rf_callv C rf_fit0 j_X14_done (ci := 14) (As := [.int (((rf_i (rf_i (rf_i (rf_i m 236 (Int32.toNatClampNeg (m.1 206 55)) a1) 237 (Int32.toNatClampNeg ((rf_i m 236 (Int32.toNatClampNeg (m.1 206 55)) a1).1 206 55)) a2) 238 (Int32.toNatClampNeg ((rf_i (rf_i m 236 (Int32.toNatClampNeg (m.1 206 55)) a1) 237 (Int32.toNatClampNeg ((rf_i m 236 (Int32.toNatClampNeg (m.1 206 55)) a1).1 206 55)) a2).1 206 55)) a3) 206 55 (((rf_i (rf_i (rf_i m 236 (Int32.toNatClampNeg (m.1 206 55)) a1) 237 (Int32.toNatClampNeg ((rf_i m 236 (Int32.toNatClampNeg (m.1 206 55)) a1).1 206 55)) a2) 238 (Int32.toNatClampNeg ((rf_i (rf_i m 236 (Int32.toNatClampNeg (m.1 206 55)) a1) 237 (Int32.toNatClampNeg ((rf_i m 236 (Int32.toNatClampNeg (m.1 206 55)) a1).1 206 55)) a2).1 206 55)) a3).1 206 55) + 1)).1 206 55) - 1)]) (rest := []) mw_X14_done (c_X14_done hc4) (by decide) rfl (by decide) lk_14_357 rfl rfl (Nat.le_of_ble_eq_true rfl) (by decide +kernel) ?_
          show rf_V 7 (rf_sh w) K 0 0 190 ([(0, .ref 206), (1, .int a1), (2, .int a2), (3, .int a3), (4, .int a4), (5, .int a5), (6, .int a6)], [.int y4], rf_MM w m4)
          obtain rfl := Option.some.inj hg
          exact rf_iret C hE (by decide +kernel)
        · replace hg := (if_pos hc).symm.trans hg
          refine rf_seg C [(.aload 0, 1), (.iconst 3, 1)] (pc' := 136) (S' := ([(0, .ref 206), (1, .int a1), (2, .int a2), (3, .int a3), (4, .int a4), (5, .int a5), (6, .int a6)], [.int 3, .ref 206], rf_MM w m)) (by decide +kernel) rfl trivial ?_
          obtain ⟨y5, m5, hc5, hg⟩ := rf_b_some hg
          refine rf_callv C rf_fit0 j_X14_refused (ci := 14) (As := [.int 3]) (rest := []) mw_X14_refused (c_X14_refused hc5) (by decide) rfl (by decide) lk_14_353 rfl rfl (Nat.le_of_ble_eq_true rfl) (by decide +kernel) ?_
          show rf_V 7 (rf_sh w) K 0 0 139 ([(0, .ref 206), (1, .int a1), (2, .int a2), (3, .int a3), (4, .int a4), (5, .int a5), (6, .int a6)], [.int y5], rf_MM w m5)
          obtain rfl := Option.some.inj hg
          exact rf_iret C hE (by decide +kernel)
      · replace hg := (if_neg hc).symm.trans hg
        refine rf_seg C [(.aload 0, 1), (.iconst 5, 1)] (pc' := 121) (S' := ([(0, .ref 206), (1, .int a1), (2, .int a2), (3, .int a3), (4, .int a4), (5, .int a5), (6, .int a6)], [.int 5, .ref 206], rf_MM w m)) (by decide +kernel) rfl trivial ?_
        obtain ⟨y6, m6, hc6, hg⟩ := rf_b_some hg
        refine rf_callv C rf_fit0 j_X14_refused (ci := 14) (As := [.int 5]) (rest := []) mw_X14_refused (c_X14_refused hc6) (by decide) rfl (by decide) lk_14_353 rfl rfl (Nat.le_of_ble_eq_true rfl) (by decide +kernel) ?_
        show rf_V 7 (rf_sh w) K 0 0 124 ([(0, .ref 206), (1, .int a1), (2, .int a2), (3, .int a3), (4, .int a4), (5, .int a5), (6, .int a6)], [.int y6], rf_MM w m6)
        obtain rfl := Option.some.inj hg
        exact rf_iret C hE (by decide +kernel)
  · replace hg := (if_neg hc).symm.trans hg
    refine rf_seg C [(.aload 0, 1), (.iload 6, 2), (.iload 1, 1), (.iload 2, 1)] (pc' := 67) (S' := ([(0, .ref 206), (1, .int a1), (2, .int a2), (3, .int a3), (4, .int a4), (5, .int a5), (6, .int a6)], [.int a2, .int a1, .int a6, .ref 206], rf_MM w m)) (by decide +kernel) rfl trivial ?_
    obtain ⟨y7, m7, hc7, hg⟩ := rf_b_some hg
    refine rf_callv C rf_fit0 j_X14_isOf (ci := 14) (As := [.int a6, .int a1, .int a2]) (rest := []) mw_X14_isOf (c_X14_isOf hc7) (by decide) rfl (by decide) lk_14_669 rfl rfl (Nat.le_of_ble_eq_true rfl) (by decide +kernel) ?_
    show rf_V 7 (rf_sh w) K 0 0 70 ([(0, .ref 206), (1, .int a1), (2, .int a2), (3, .int a3), (4, .int a4), (5, .int a5), (6, .int a6)], [.int y7], rf_MM w m7)
    refine rf_if_ne C 6 76 (by decide +kernel) (fun hc => ?_) (fun hc => ?_)
    · replace hg := (if_neg hc).symm.trans hg
      refine rf_seg C [(.iinc 4 1, 3), (.iload 5, 2)] (pc' := 81) (S' := ([(4, .int (a4 + 1)), (0, .ref 206), (1, .int a1), (2, .int a2), (3, .int a3), (5, .int a5), (6, .int a6)], [.int a5], rf_MM w m7)) (by decide +kernel) rfl trivial ?_
      refine rf_if_ne C 14 95 (by decide +kernel) (fun hc => ?_) (fun hc => ?_)
      · replace hg := (if_neg hc).symm.trans hg
        refine rf_few [1, 2, 3, 4, 0, 6] rfl ?_
        exact s_X14_base_95 C hE hr53 a1 a2 a3 (a4 + 1) a6 m7 hg
      · replace hg := (if_pos hc).symm.trans hg
        obtain ⟨q8, hg⟩ := rf_g_some hg
        refine rf_seg C [(.aload 0, 1), (.invokeinterface 14 59, 3), (.iload 6, 2), (.iaload, 1), (.iload 3, 1)] (pc' := 92) (S' := ([(4, .int (a4 + 1)), (0, .ref 206), (1, .int a1), (2, .int a2), (3, .int a3), (5, .int a5), (6, .int a6)], [.int a3, .int (m7.1 238 (Int32.toNatClampNeg a6))], rf_MM w m7)) (by decide +kernel) rfl (rf_in_of q8) ?_
        refine rf_icmp_ne C 7 99 (by decide +kernel) (fun hc => ?_) (fun hc => ?_)
        · replace hg := (if_neg hc).symm.trans hg
          refine rf_seg C [(.iconst 0, 1)] (pc' := 100) (S' := ([(4, .int (a4 + 1)), (0, .ref 206), (1, .int a1), (2, .int a2), (3, .int a3), (5, .int a5), (6, .int a6)], [.int 0], rf_MM w m7)) (by decide +kernel) rfl trivial ?_
          refine rf_few [1, 2, 3, 4, 0, 6] rfl ?_
          exact s_X14_base_100 C hE hr53 a1 a2 a3 (a4 + 1) a6 0 m7 hg
        · replace hg := (if_pos hc).symm.trans hg
          refine rf_few [1, 2, 3, 4, 0, 6] rfl ?_
          exact s_X14_base_95 C hE hr53 a1 a2 a3 (a4 + 1) a6 m7 hg
    · replace hg := (if_pos hc).symm.trans hg
      refine rf_goto C 29 102 (by decide +kernel) ?_
      refine rf_few [0, 1, 2, 3, 4, 5, 6] rfl ?_
      exact s_X14_base_102 C hE hr53 a1 a2 a3 a4 a5 a6 m7 hg
theorem s_X14_base_53 {w : rf_w} {K : rf_K} {r : Int32 × rf_m} (C : rf_Ctx 14 cX14_base 7 2 (rf_sh w) K) (hE : rf_End (some .int) K (rf_sh w) 0 0 (some (.int r.1)) (rf_MM w r.2)) (n : Nat) : ∀ (a1 : Int32) (a2 : Int32) (a3 : Int32) (a4 : Int32) (a5 : Int32) (a6 : Int32) (m : rf_m), g_X14_base_53 w n a1 a2 a3 a4 a5 a6 m = some r → rf_V 7 (rf_sh w) K 0 0 53 ([(0, .ref 206), (1, .int a1), (2, .int a2), (3, .int a3), (4, .int a4), (5, .int a5), (6, .int a6)], [], rf_MM w m) := by
  induction n with
  | zero => intro a1 a2 a3 a4 a5 a6 m hg; cases hg
  | succ n ih => intro a1 a2 a3 a4 a5 a6 m hg; exact s_X14_base_53_b C hE ih a1 a2 a3 a4 a5 a6 m hg
theorem s_X14_base_48 {w : rf_w} {K : rf_K} {r : Int32 × rf_m} (C : rf_Ctx 14 cX14_base 7 2 (rf_sh w) K) (hE : rf_End (some .int) K (rf_sh w) 0 0 (some (.int r.1)) (rf_MM w r.2)) (a1 : Int32) (a2 : Int32) (a3 : Int32) (a4 : Int32) (s0 : Int32) (m : rf_m) (hg : g_X14_base_48 w a1 a2 a3 a4 s0 m = some r) : rf_V 7 (rf_sh w) K 0 0 48 ([(0, .ref 206), (1, .int a1), (2, .int a2), (3, .int a3), (4, .int a4)], [.int s0], rf_MM w m) := by
  unfold g_X14_base_48 at hg
  refine rf_seg C [(.istore 5, 2), (.iconst 0, 1), (.istore 6, 2)] (pc' := 53) (S' := ([(6, .int 0), (5, .int s0), (0, .ref 206), (1, .int a1), (2, .int a2), (3, .int a3), (4, .int a4)], [], rf_MM w m)) (by decide +kernel) rfl trivial ?_
  refine rf_few [2, 3, 4, 5, 6, 1, 0] rfl ?_
  exact s_X14_base_53 C hE rf_fuel a1 a2 a3 a4 s0 0 m hg
theorem c_X14_base {w : rf_w} {m : rf_m} {a1 : Int32} {a2 : Int32} {a3 : Int32} {r : Int32 × rf_m} (hg : g_X14_base w m a1 a2 a3 = some r) : rf_Con j_X14_base 2 (rf_sh w) [.ref 206, .int a1, .int a2, .int a3] (rf_MM w m) (some (.int r.1)) (rf_MM w r.2) := by
  refine rf_con j_X14_base 2 ⟨by decide +kernel, rfl, Nat.le_of_ble_eq_true rfl⟩ (fun K C hE => ?_)
  unfold g_X14_base at hg
  show rf_V 7 (rf_sh w) K 0 0 0 ([(0, .ref 206), (1, .int a1), (2, .int a2), (3, .int a3)], [], rf_MM w m)
  refine rf_seg C [(.aload 0, 1), (.iconst 0, 1), (.multianewarray 14 0, 3), (.aload 0, 1), (.iload 1, 1)] (pc' := 7) (S' := ([(0, .ref 206), (1, .int a1), (2, .int a2), (3, .int a3)], [.int a1, .ref 206], rf_MM w (rf_i m 206 0 0))) (by decide +kernel) rfl trivial ?_
  obtain ⟨y0, m0, hc0, hg⟩ := rf_b_some hg
  refine rf_callv C rf_fit0 j_X14_isMark (ci := 14) (As := [.int a1]) (rest := []) mw_X14_isMark (c_X14_isMark hc0) (by decide) rfl (by decide) lk_14_360 rfl rfl (Nat.le_of_ble_eq_true rfl) (by decide +kernel) ?_
  show rf_V 7 (rf_sh w) K 0 0 10 ([(0, .ref 206), (1, .int a1), (2, .int a2), (3, .int a3)], [.int y0], rf_MM w m0)
  refine rf_if_eq C 19 29 (by decide +kernel) (fun hc => ?_) (fun hc => ?_)
  · replace hg := (if_pos hc).symm.trans hg
    refine rf_seg C [(.aload 0, 1), (.iconst 1, 1)] (pc' := 31) (S' := ([(0, .ref 206), (1, .int a1), (2, .int a2), (3, .int a3)], [.int 1, .ref 206], rf_MM w m0)) (by decide +kernel) rfl trivial ?_
    obtain ⟨y1, m1, hc1, hg⟩ := rf_b_some hg
    refine rf_callv C rf_fit0 j_X14_refused (ci := 14) (As := [.int 1]) (rest := []) mw_X14_refused (c_X14_refused hc1) (by decide) rfl (by decide) lk_14_353 rfl rfl (Nat.le_of_ble_eq_true rfl) (by decide +kernel) ?_
    show rf_V 7 (rf_sh w) K 0 0 34 ([(0, .ref 206), (1, .int a1), (2, .int a2), (3, .int a3)], [.int y1], rf_MM w m1)
    obtain rfl := Option.some.inj hg
    exact rf_iret C hE (by decide +kernel)
  · replace hg := (if_neg hc).symm.trans hg
    refine rf_seg C [(.aload 0, 1), (.iload 2, 1)] (pc' := 15) (S' := ([(0, .ref 206), (1, .int a1), (2, .int a2), (3, .int a3)], [.int a2, .ref 206], rf_MM w m0)) (by decide +kernel) rfl trivial ?_
    obtain ⟨y2, m2, hc2, hg⟩ := rf_b_some hg
    refine rf_callv C rf_fit0 j_X14_isMark (ci := 14) (As := [.int a2]) (rest := []) mw_X14_isMark (c_X14_isMark hc2) (by decide) rfl (by decide) lk_14_360 rfl rfl (Nat.le_of_ble_eq_true rfl) (by decide +kernel) ?_
    show rf_V 7 (rf_sh w) K 0 0 18 ([(0, .ref 206), (1, .int a1), (2, .int a2), (3, .int a3)], [.int y2], rf_MM w m2)
    refine rf_if_eq C 11 29 (by decide +kernel) (fun hc => ?_) (fun hc => ?_)
    · replace hg := (if_pos hc).symm.trans hg
      refine rf_seg C [(.aload 0, 1), (.iconst 1, 1)] (pc' := 31) (S' := ([(0, .ref 206), (1, .int a1), (2, .int a2), (3, .int a3)], [.int 1, .ref 206], rf_MM w m2)) (by decide +kernel) rfl trivial ?_
      obtain ⟨y3, m3, hc3, hg⟩ := rf_b_some hg
      refine rf_callv C rf_fit0 j_X14_refused (ci := 14) (As := [.int 1]) (rest := []) mw_X14_refused (c_X14_refused hc3) (by decide) rfl (by decide) lk_14_353 rfl rfl (Nat.le_of_ble_eq_true rfl) (by decide +kernel) ?_
      show rf_V 7 (rf_sh w) K 0 0 34 ([(0, .ref 206), (1, .int a1), (2, .int a2), (3, .int a3)], [.int y3], rf_MM w m3)
      obtain rfl := Option.some.inj hg
      exact rf_iret C hE (by decide +kernel)
    · replace hg := (if_neg hc).symm.trans hg
      refine rf_seg C [(.aload 0, 1), (.iload 3, 1)] (pc' := 23) (S' := ([(0, .ref 206), (1, .int a1), (2, .int a2), (3, .int a3)], [.int a3, .ref 206], rf_MM w m2)) (by decide +kernel) rfl trivial ?_
      obtain ⟨y4, m4, hc4, hg⟩ := rf_b_some hg
      refine rf_callv C rf_fit0 j_X14_isParty (ci := 14) (As := [.int a3]) (rest := []) mw_X14_isParty (c_X14_isParty hc4) (by decide) rfl (by decide) lk_14_405 rfl rfl (Nat.le_of_ble_eq_true rfl) (by decide +kernel) ?_
      show rf_V 7 (rf_sh w) K 0 0 26 ([(0, .ref 206), (1, .int a1), (2, .int a2), (3, .int a3)], [.int y4], rf_MM w m4)
      refine rf_if_ne C 9 35 (by decide +kernel) (fun hc => ?_) (fun hc => ?_)
      · replace hg := (if_neg hc).symm.trans hg
        refine rf_seg C [(.iconst 0, 1), (.istore 4, 2), (.iload 1, 1), (.iload 2, 1)] (pc' := 40) (S' := ([(4, .int 0), (0, .ref 206), (1, .int a1), (2, .int a2), (3, .int a3)], [.int a2, .int a1], rf_MM w m4)) (by decide +kernel) rfl trivial ?_
        refine rf_icmp_ne C 7 47 (by decide +kernel) (fun hc => ?_) (fun hc => ?_)
        · replace hg := (if_neg hc).symm.trans hg
          refine rf_seg C [(.iconst 0, 1)] (pc' := 48) (S' := ([(4, .int 0), (0, .ref 206), (1, .int a1), (2, .int a2), (3, .int a3)], [.int 0], rf_MM w m4)) (by decide +kernel) rfl trivial ?_
          refine rf_few [1, 2, 3, 4, 0] rfl ?_
          exact s_X14_base_48 C hE a1 a2 a3 0 0 m4 hg
        · replace hg := (if_pos hc).symm.trans hg
          refine rf_seg C [(.iconst 1, 1)] (pc' := 44) (S' := ([(4, .int 0), (0, .ref 206), (1, .int a1), (2, .int a2), (3, .int a3)], [.int 1], rf_MM w m4)) (by decide +kernel) rfl trivial ?_
          refine rf_goto C 4 48 (by decide +kernel) ?_
          refine rf_few [1, 2, 3, 4, 0] rfl ?_
          exact s_X14_base_48 C hE a1 a2 a3 0 1 m4 hg
      · replace hg := (if_pos hc).symm.trans hg
        refine rf_seg C [(.aload 0, 1), (.iconst 1, 1)] (pc' := 31) (S' := ([(0, .ref 206), (1, .int a1), (2, .int a2), (3, .int a3)], [.int 1, .ref 206], rf_MM w m4)) (by decide +kernel) rfl trivial ?_
        obtain ⟨y5, m5, hc5, hg⟩ := rf_b_some hg
        refine rf_callv C rf_fit0 j_X14_refused (ci := 14) (As := [.int 1]) (rest := []) mw_X14_refused (c_X14_refused hc5) (by decide) rfl (by decide) lk_14_353 rfl rfl (Nat.le_of_ble_eq_true rfl) (by decide +kernel) ?_
        show rf_V 7 (rf_sh w) K 0 0 34 ([(0, .ref 206), (1, .int a1), (2, .int a2), (3, .int a3)], [.int y5], rf_MM w m5)
        obtain rfl := Option.some.inj hg
        exact rf_iret C hE (by decide +kernel)
-- X14_bar
abbrev j_X14_bar : rf_J := (14, yX14_bar, cX14_bar, 6, (some .int))
theorem mw_X14_bar : rf_mv j_X14_bar (rf_R 14) 4 := ⟨⟨rf_mem 54 (by decide +kernel), rf_mem 54 (by decide +kernel), rf_mem 0 (by decide +kernel), rf_mem 54 (by decide +kernel)⟩, by decide +kernel, by decide⟩
def g_X14_bar (w : rf_w) (m : rf_m) (a1 : Int32) (a2 : Int32) (a3 : Int32) (a4 : Int32) : Option (Int32 × rf_m) := rf_b (g_X14_isBase w (rf_i m 206 0 0) a1) fun y0 m0 => (if y0 = 0 then rf_b (g_X14_refused w m0 1) fun y19 m19 => some (y19, m19) else rf_b (g_X14_in w m0 a2 1000 100000) fun y1 m1 => (if y1 = 0 then rf_b (g_X14_refused w m1 2) fun y2 m2 => some (y2, m2) else rf_b (g_X14_in w m1 a3 ((-20)) 60) fun y3 m3 => (if y3 = 0 then rf_b (g_X14_refused w m3 2) fun y4 m4 => some (y4, m4) else rf_b (g_X14_in w m3 a4 0 999) fun y5 m5 => (if y5 = 0 then rf_b (g_X14_refused w m5 2) fun y6 m6 => some (y6, m6) else (if a4 < a2 then rf_g (rf_in a1 6) ((if (m5.1 239 (Int32.toNatClampNeg a1)) = 40 then rf_b (g_X14_refused w m5 3) fun y17 m17 => some (y17, m17) else rf_g (rf_in a1 6) (rf_vi ((40 * a1) + (m5.1 239 (Int32.toNatClampNeg a1))) fun x9 => rf_g (rf_in x9 240) (rf_g (rf_in x9 240) (rf_g (rf_in x9 240) (rf_g (rf_in a1 6) (rf_g (rf_in a1 6) (rf_g (rf_in a1 6) (rf_b (g_X14_done w (rf_i (rf_i (rf_i (rf_i m5 240 (Int32.toNatClampNeg x9) a2) 241 (Int32.toNatClampNeg x9) a3) 242 (Int32.toNatClampNeg x9) a4) 239 (Int32.toNatClampNeg a1) (((rf_i (rf_i (rf_i m5 240 (Int32.toNatClampNeg x9) a2) 241 (Int32.toNatClampNeg x9) a3) 242 (Int32.toNatClampNeg x9) a4).1 239 (Int32.toNatClampNeg a1)) + 1)) ((rf_i (rf_i (rf_i (rf_i m5 240 (Int32.toNatClampNeg x9) a2) 241 (Int32.toNatClampNeg x9) a3) 242 (Int32.toNatClampNeg x9) a4) 239 (Int32.toNatClampNeg a1) (((rf_i (rf_i (rf_i m5 240 (Int32.toNatClampNeg x9) a2) 241 (Int32.toNatClampNeg x9) a3) 242 (Int32.toNatClampNeg x9) a4).1 239 (Int32.toNatClampNeg a1)) + 1)).1 239 (Int32.toNatClampNeg a1))) fun y16 m16 => some (y16, m16)))))))))) else rf_b (g_X14_refused w m5 2) fun y18 m18 => some (y18, m18))))))
theorem c_X14_bar {w : rf_w} {m : rf_m} {a1 : Int32} {a2 : Int32} {a3 : Int32} {a4 : Int32} {r : Int32 × rf_m} (hg : g_X14_bar w m a1 a2 a3 a4 = some r) : rf_Con j_X14_bar 2 (rf_sh w) [.ref 206, .int a1, .int a2, .int a3, .int a4] (rf_MM w m) (some (.int r.1)) (rf_MM w r.2) := by
  refine rf_con j_X14_bar 2 ⟨by decide +kernel, rfl, Nat.le_of_ble_eq_true rfl⟩ (fun K C hE => ?_)
  unfold g_X14_bar at hg
  show rf_V 6 (rf_sh w) K 0 0 0 ([(0, .ref 206), (1, .int a1), (2, .int a2), (3, .int a3), (4, .int a4)], [], rf_MM w m)
  refine rf_seg C [(.aload 0, 1), (.iconst 0, 1), (.multianewarray 14 0, 3), (.aload 0, 1), (.iload 1, 1)] (pc' := 7) (S' := ([(0, .ref 206), (1, .int a1), (2, .int a2), (3, .int a3), (4, .int a4)], [.int a1, .ref 206], rf_MM w (rf_i m 206 0 0))) (by decide +kernel) rfl trivial ?_
  obtain ⟨y0, m0, hc0, hg⟩ := rf_b_some hg
  refine rf_callv C rf_fit0 j_X14_isBase (ci := 14) (As := [.int a1]) (rest := []) mw_X14_isBase (c_X14_isBase hc0) (by decide) rfl (by decide) lk_14_672 rfl rfl (Nat.le_of_ble_eq_true rfl) (by decide +kernel) ?_
  show rf_V 6 (rf_sh w) K 0 0 10 ([(0, .ref 206), (1, .int a1), (2, .int a2), (3, .int a3), (4, .int a4)], [.int y0], rf_MM w m0)
  refine rf_if_ne C 9 19 (by decide +kernel) (fun hc => ?_) (fun hc => ?_)
  · replace hg := (if_neg hc).symm.trans hg
    refine rf_seg C [(.iload 2, 1), (.iconst 1000, 3), (.iconst 100000, 3)] (pc' := 26) (S' := ([(0, .ref 206), (1, .int a1), (2, .int a2), (3, .int a3), (4, .int a4)], [.int 100000, .int 1000, .int a2], rf_MM w m0)) (by decide +kernel) rfl trivial ?_
    obtain ⟨y1, m1, hc1, hg⟩ := rf_b_some hg
    refine rf_calls C rf_fit0 j_X14_in (As := [.int a2, .int 1000, .int 100000]) (rest := []) mw_X14_in (c_X14_in hc1) (by decide) lk_14_345 rfl rfl (Nat.le_of_ble_eq_true rfl) (by decide +kernel) ?_
    show rf_V 6 (rf_sh w) K 0 0 29 ([(0, .ref 206), (1, .int a1), (2, .int a2), (3, .int a3), (4, .int a4)], [.int y1], rf_MM w m1)
    refine rf_if_eq C 32 61 (by decide +kernel) (fun hc => ?_) (fun hc => ?_)
    · replace hg := (if_pos hc).symm.trans hg
      refine rf_seg C [(.aload 0, 1), (.iconst 2, 1)] (pc' := 63) (S' := ([(0, .ref 206), (1, .int a1), (2, .int a2), (3, .int a3), (4, .int a4)], [.int 2, .ref 206], rf_MM w m1)) (by decide +kernel) rfl trivial ?_
      obtain ⟨y2, m2, hc2, hg⟩ := rf_b_some hg
      refine rf_callv C rf_fit0 j_X14_refused (ci := 14) (As := [.int 2]) (rest := []) mw_X14_refused (c_X14_refused hc2) (by decide) rfl (by decide) lk_14_353 rfl rfl (Nat.le_of_ble_eq_true rfl) (by decide +kernel) ?_
      show rf_V 6 (rf_sh w) K 0 0 66 ([(0, .ref 206), (1, .int a1), (2, .int a2), (3, .int a3), (4, .int a4)], [.int y2], rf_MM w m2)
      obtain rfl := Option.some.inj hg
      exact rf_iret C hE (by decide +kernel)
    · replace hg := (if_neg hc).symm.trans hg
      refine rf_seg C [(.iload 3, 1), (.iconst (-20), 2), (.iconst 60, 2)] (pc' := 37) (S' := ([(0, .ref 206), (1, .int a1), (2, .int a2), (3, .int a3), (4, .int a4)], [.int 60, .int ((-20)), .int a3], rf_MM w m1)) (by decide +kernel) rfl trivial ?_
      obtain ⟨y3, m3, hc3, hg⟩ := rf_b_some hg
      refine rf_calls C rf_fit0 j_X14_in (As := [.int a3, .int ((-20)), .int 60]) (rest := []) mw_X14_in (c_X14_in hc3) (by decide) lk_14_345 rfl rfl (Nat.le_of_ble_eq_true rfl) (by decide +kernel) ?_
      show rf_V 6 (rf_sh w) K 0 0 40 ([(0, .ref 206), (1, .int a1), (2, .int a2), (3, .int a3), (4, .int a4)], [.int y3], rf_MM w m3)
      refine rf_if_eq C 21 61 (by decide +kernel) (fun hc => ?_) (fun hc => ?_)
      · replace hg := (if_pos hc).symm.trans hg
        refine rf_seg C [(.aload 0, 1), (.iconst 2, 1)] (pc' := 63) (S' := ([(0, .ref 206), (1, .int a1), (2, .int a2), (3, .int a3), (4, .int a4)], [.int 2, .ref 206], rf_MM w m3)) (by decide +kernel) rfl trivial ?_
        obtain ⟨y4, m4, hc4, hg⟩ := rf_b_some hg
        refine rf_callv C rf_fit0 j_X14_refused (ci := 14) (As := [.int 2]) (rest := []) mw_X14_refused (c_X14_refused hc4) (by decide) rfl (by decide) lk_14_353 rfl rfl (Nat.le_of_ble_eq_true rfl) (by decide +kernel) ?_
        show rf_V 6 (rf_sh w) K 0 0 66 ([(0, .ref 206), (1, .int a1), (2, .int a2), (3, .int a3), (4, .int a4)], [.int y4], rf_MM w m4)
        obtain rfl := Option.some.inj hg
        exact rf_iret C hE (by decide +kernel)
      · replace hg := (if_neg hc).symm.trans hg
        refine rf_seg C [(.iload 4, 2), (.iconst 0, 1), (.iconst 999, 3)] (pc' := 49) (S' := ([(0, .ref 206), (1, .int a1), (2, .int a2), (3, .int a3), (4, .int a4)], [.int 999, .int 0, .int a4], rf_MM w m3)) (by decide +kernel) rfl trivial ?_
        obtain ⟨y5, m5, hc5, hg⟩ := rf_b_some hg
        refine rf_calls C rf_fit0 j_X14_in (As := [.int a4, .int 0, .int 999]) (rest := []) mw_X14_in (c_X14_in hc5) (by decide) lk_14_345 rfl rfl (Nat.le_of_ble_eq_true rfl) (by decide +kernel) ?_
        show rf_V 6 (rf_sh w) K 0 0 52 ([(0, .ref 206), (1, .int a1), (2, .int a2), (3, .int a3), (4, .int a4)], [.int y5], rf_MM w m5)
        refine rf_if_eq C 9 61 (by decide +kernel) (fun hc => ?_) (fun hc => ?_)
        · replace hg := (if_pos hc).symm.trans hg
          refine rf_seg C [(.aload 0, 1), (.iconst 2, 1)] (pc' := 63) (S' := ([(0, .ref 206), (1, .int a1), (2, .int a2), (3, .int a3), (4, .int a4)], [.int 2, .ref 206], rf_MM w m5)) (by decide +kernel) rfl trivial ?_
          obtain ⟨y6, m6, hc6, hg⟩ := rf_b_some hg
          refine rf_callv C rf_fit0 j_X14_refused (ci := 14) (As := [.int 2]) (rest := []) mw_X14_refused (c_X14_refused hc6) (by decide) rfl (by decide) lk_14_353 rfl rfl (Nat.le_of_ble_eq_true rfl) (by decide +kernel) ?_
          show rf_V 6 (rf_sh w) K 0 0 66 ([(0, .ref 206), (1, .int a1), (2, .int a2), (3, .int a3), (4, .int a4)], [.int y6], rf_MM w m6)
          obtain rfl := Option.some.inj hg
          exact rf_iret C hE (by decide +kernel)
        · replace hg := (if_neg hc).symm.trans hg
          refine rf_seg C [(.iload 4, 2), (.iload 2, 1)] (pc' := 58) (S' := ([(0, .ref 206), (1, .int a1), (2, .int a2), (3, .int a3), (4, .int a4)], [.int a2, .int a4], rf_MM w m5)) (by decide +kernel) rfl trivial ?_
          refine rf_icmp_lt C 9 67 (by decide +kernel) (fun hc => ?_) (fun hc => ?_)
          · replace hg := (if_pos hc).symm.trans hg
            obtain ⟨q7, hg⟩ := rf_g_some hg
            refine rf_seg C [(.aload 0, 1), (.invokeinterface 14 60, 3), (.iload 1, 1), (.iaload, 1), (.iconst 40, 2)] (pc' := 75) (S' := ([(0, .ref 206), (1, .int a1), (2, .int a2), (3, .int a3), (4, .int a4)], [.int 40, .int (m5.1 239 (Int32.toNatClampNeg a1))], rf_MM w m5)) (by decide +kernel) rfl (rf_in_of q7) ?_
            refine rf_icmp_ne C 9 84 (by decide +kernel) (fun hc => ?_) (fun hc => ?_)
            · replace hg := (if_neg hc).symm.trans hg
              obtain ⟨q8, hg⟩ := rf_g_some hg
              refine rf_seg C [(.iconst 40, 2), (.iload 1, 1), (.imul, 1), (.aload 0, 1), (.invokeinterface 14 60, 3), (.iload 1, 1), (.iaload, 1), (.iadd, 1)] (pc' := 95) (S' := ([(0, .ref 206), (1, .int a1), (2, .int a2), (3, .int a3), (4, .int a4)], [.int ((40 * a1) + (m5.1 239 (Int32.toNatClampNeg a1)))], rf_MM w m5)) (by decide +kernel) rfl (rf_in_of q8) ?_
              obtain ⟨x9, hx9, hg⟩ := rf_vi_some hg
              refine rf_vi_top hx9 ?_
              obtain ⟨q10, hg⟩ := rf_g_some hg
              obtain ⟨q11, hg⟩ := rf_g_some hg
              obtain ⟨q12, hg⟩ := rf_g_some hg
              obtain ⟨q13, hg⟩ := rf_g_some hg
              obtain ⟨q14, hg⟩ := rf_g_some hg
              obtain ⟨q15, hg⟩ := rf_g_some hg
              refine rf_seg C [(.istore 5, 2), (.aload 0, 1), (.invokeinterface 14 61, 3), (.iload 5, 2), (.iload 2, 1), (.iastore, 1), (.aload 0, 1), (.invokeinterface 14 62, 3), (.iload 5, 2), (.iload 3, 1), (.iastore, 1), (.aload 0, 1), (.invokeinterface 14 63, 3), (.iload 5, 2), (.iload 4, 2), (.iastore, 1), (.aload 0, 1), (.invokeinterface 14 60, 3), (.iload 1, 1), (.dup2, 1), (.iaload, 1), (.iconst 1, 1), (.iadd, 1), (.iastore, 1), (.aload 0, 1), (.aload 0, 1), (.invokeinterface 14 60, 3), (.iload 1, 1), (.iaload, 1)] (pc' := 139) (S' := ([(5, .int x9), (0, .ref 206), (1, .int a1), (2, .int a2), (3, .int a3), (4, .int a4)], [.int ((rf_i (rf_i (rf_i (rf_i m5 240 (Int32.toNatClampNeg x9) a2) 241 (Int32.toNatClampNeg x9) a3) 242 (Int32.toNatClampNeg x9) a4) 239 (Int32.toNatClampNeg a1) (((rf_i (rf_i (rf_i m5 240 (Int32.toNatClampNeg x9) a2) 241 (Int32.toNatClampNeg x9) a3) 242 (Int32.toNatClampNeg x9) a4).1 239 (Int32.toNatClampNeg a1)) + 1)).1 239 (Int32.toNatClampNeg a1)), .ref 206], rf_MM w (rf_i (rf_i (rf_i (rf_i m5 240 (Int32.toNatClampNeg x9) a2) 241 (Int32.toNatClampNeg x9) a3) 242 (Int32.toNatClampNeg x9) a4) 239 (Int32.toNatClampNeg a1) (((rf_i (rf_i (rf_i m5 240 (Int32.toNatClampNeg x9) a2) 241 (Int32.toNatClampNeg x9) a3) 242 (Int32.toNatClampNeg x9) a4).1 239 (Int32.toNatClampNeg a1)) + 1)))) (by decide +kernel) rfl (by exact ⟨(rf_in_of q10), (rf_in_of q11), (rf_in_of q12), (rf_in_of q13), (rf_in_of q14), (rf_in_of q15)⟩) ?_
              obtain ⟨y16, m16, hc16, hg⟩ := rf_b_some hg
              refine rf_callv C rf_fit0 j_X14_done (ci := 14) (As := [.int ((rf_i (rf_i (rf_i (rf_i m5 240 (Int32.toNatClampNeg x9) a2) 241 (Int32.toNatClampNeg x9) a3) 242 (Int32.toNatClampNeg x9) a4) 239 (Int32.toNatClampNeg a1) (((rf_i (rf_i (rf_i m5 240 (Int32.toNatClampNeg x9) a2) 241 (Int32.toNatClampNeg x9) a3) 242 (Int32.toNatClampNeg x9) a4).1 239 (Int32.toNatClampNeg a1)) + 1)).1 239 (Int32.toNatClampNeg a1))]) (rest := []) mw_X14_done (c_X14_done hc16) (by decide) rfl (by decide) lk_14_357 rfl rfl (Nat.le_of_ble_eq_true rfl) (by decide +kernel) ?_
              show rf_V 6 (rf_sh w) K 0 0 142 ([(5, .int x9), (0, .ref 206), (1, .int a1), (2, .int a2), (3, .int a3), (4, .int a4)], [.int y16], rf_MM w m16)
              obtain rfl := Option.some.inj hg
              exact rf_iret C hE (by decide +kernel)
            · replace hg := (if_pos hc).symm.trans hg
              refine rf_seg C [(.aload 0, 1), (.iconst 3, 1)] (pc' := 80) (S' := ([(0, .ref 206), (1, .int a1), (2, .int a2), (3, .int a3), (4, .int a4)], [.int 3, .ref 206], rf_MM w m5)) (by decide +kernel) rfl trivial ?_
              obtain ⟨y17, m17, hc17, hg⟩ := rf_b_some hg
              refine rf_callv C rf_fit0 j_X14_refused (ci := 14) (As := [.int 3]) (rest := []) mw_X14_refused (c_X14_refused hc17) (by decide) rfl (by decide) lk_14_353 rfl rfl (Nat.le_of_ble_eq_true rfl) (by decide +kernel) ?_
              show rf_V 6 (rf_sh w) K 0 0 83 ([(0, .ref 206), (1, .int a1), (2, .int a2), (3, .int a3), (4, .int a4)], [.int y17], rf_MM w m17)
              obtain rfl := Option.some.inj hg
              exact rf_iret C hE (by decide +kernel)
          · replace hg := (if_neg hc).symm.trans hg
            refine rf_seg C [(.aload 0, 1), (.iconst 2, 1)] (pc' := 63) (S' := ([(0, .ref 206), (1, .int a1), (2, .int a2), (3, .int a3), (4, .int a4)], [.int 2, .ref 206], rf_MM w m5)) (by decide +kernel) rfl trivial ?_
            obtain ⟨y18, m18, hc18, hg⟩ := rf_b_some hg
            refine rf_callv C rf_fit0 j_X14_refused (ci := 14) (As := [.int 2]) (rest := []) mw_X14_refused (c_X14_refused hc18) (by decide) rfl (by decide) lk_14_353 rfl rfl (Nat.le_of_ble_eq_true rfl) (by decide +kernel) ?_
            show rf_V 6 (rf_sh w) K 0 0 66 ([(0, .ref 206), (1, .int a1), (2, .int a2), (3, .int a3), (4, .int a4)], [.int y18], rf_MM w m18)
            obtain rfl := Option.some.inj hg
            exact rf_iret C hE (by decide +kernel)
  · replace hg := (if_pos hc).symm.trans hg
    refine rf_seg C [(.aload 0, 1), (.iconst 1, 1)] (pc' := 15) (S' := ([(0, .ref 206), (1, .int a1), (2, .int a2), (3, .int a3), (4, .int a4)], [.int 1, .ref 206], rf_MM w m0)) (by decide +kernel) rfl trivial ?_
    obtain ⟨y19, m19, hc19, hg⟩ := rf_b_some hg
    refine rf_callv C rf_fit0 j_X14_refused (ci := 14) (As := [.int 1]) (rest := []) mw_X14_refused (c_X14_refused hc19) (by decide) rfl (by decide) lk_14_353 rfl rfl (Nat.le_of_ble_eq_true rfl) (by decide +kernel) ?_
    show rf_V 6 (rf_sh w) K 0 0 18 ([(0, .ref 206), (1, .int a1), (2, .int a2), (3, .int a3), (4, .int a4)], [.int y19], rf_MM w m19)
    obtain rfl := Option.some.inj hg
    exact rf_iret C hE (by decide +kernel)
-- X14_growth
abbrev j_X14_growth : rf_J := (14, yX14_growth, cX14_growth, 2, (some .boolean))
theorem mw_X14_growth : rf_mv j_X14_growth (rf_R 14) 1 := ⟨⟨rf_mem 55 (by decide +kernel), rf_mem 55 (by decide +kernel), rf_mem 0 (by decide +kernel), rf_mem 55 (by decide +kernel)⟩, by decide +kernel, by decide⟩
def g_X14_growth (w : rf_w) (m : rf_m) (a1 : Int32) : Option (Int32 × rf_m) := rf_b (g_X14_in w (rf_i m 206 0 0) a1 0 50) fun y0 m0 => (if y0 = 0 then rf_b (g_X14_denied w m0 2) fun y2 m2 => rf_g (rf_01 y2) (some (y2, m2)) else rf_b (g_X14_granted w (rf_i m0 206 56 a1)) fun y1 m1 => rf_g (rf_01 y1) (some (y1, m1)))
theorem c_X14_growth {w : rf_w} {m : rf_m} {a1 : Int32} {r : Int32 × rf_m} (hg : g_X14_growth w m a1 = some r) : rf_Con j_X14_growth 2 (rf_sh w) [.ref 206, .int a1] (rf_MM w m) (some (.int r.1)) (rf_MM w r.2) := by
  refine rf_con j_X14_growth 2 ⟨by decide +kernel, rfl, Nat.le_of_ble_eq_true rfl⟩ (fun K C hE => ?_)
  unfold g_X14_growth at hg
  show rf_V 2 (rf_sh w) K 0 0 0 ([(0, .ref 206), (1, .int a1)], [], rf_MM w m)
  refine rf_seg C [(.aload 0, 1), (.iconst 0, 1), (.multianewarray 14 0, 3), (.iload 1, 1), (.iconst 0, 1), (.iconst 50, 2)] (pc' := 9) (S' := ([(0, .ref 206), (1, .int a1)], [.int 50, .int 0, .int a1], rf_MM w (rf_i m 206 0 0))) (by decide +kernel) rfl trivial ?_
  obtain ⟨y0, m0, hc0, hg⟩ := rf_b_some hg
  refine rf_calls C rf_fit0 j_X14_in (As := [.int a1, .int 0, .int 50]) (rest := []) mw_X14_in (c_X14_in hc0) (by decide) lk_14_345 rfl rfl (Nat.le_of_ble_eq_true rfl) (by decide +kernel) ?_
  show rf_V 2 (rf_sh w) K 0 0 12 ([(0, .ref 206), (1, .int a1)], [.int y0], rf_MM w m0)
  refine rf_if_ne C 9 21 (by decide +kernel) (fun hc => ?_) (fun hc => ?_)
  · replace hg := (if_neg hc).symm.trans hg
    refine rf_seg C [(.aload 0, 1), (.iload 1, 1), (.multianewarray 14 56, 3), (.aload 0, 1)] (pc' := 27) (S' := ([(0, .ref 206), (1, .int a1)], [.ref 206], rf_MM w (rf_i m0 206 56 a1))) (by decide +kernel) rfl trivial ?_
    obtain ⟨y1, m1, hc1, hg⟩ := rf_b_some hg
    refine rf_callv C rf_fit0 j_X14_granted (ci := 14) (As := []) (rest := []) mw_X14_granted (c_X14_granted hc1) (by decide) rfl (by decide) lk_14_349 rfl rfl (Nat.le_of_ble_eq_true rfl) (by decide +kernel) ?_
    show rf_V 2 (rf_sh w) K 0 0 30 ([(0, .ref 206), (1, .int a1)], [.int y1], rf_MM w m1)
    obtain ⟨q01, hg⟩ := rf_g_some hg
    obtain rfl := Option.some.inj hg
    exact rf_zret C hE (rf_01_of q01) (by decide +kernel)
  · replace hg := (if_pos hc).symm.trans hg
    refine rf_seg C [(.aload 0, 1), (.iconst 2, 1)] (pc' := 17) (S' := ([(0, .ref 206), (1, .int a1)], [.int 2, .ref 206], rf_MM w m0)) (by decide +kernel) rfl trivial ?_
    obtain ⟨y2, m2, hc2, hg⟩ := rf_b_some hg
    refine rf_callv C rf_fit0 j_X14_denied (ci := 14) (As := [.int 2]) (rest := []) mw_X14_denied (c_X14_denied hc2) (by decide) rfl (by decide) lk_14_342 rfl rfl (Nat.le_of_ble_eq_true rfl) (by decide +kernel) ?_
    show rf_V 2 (rf_sh w) K 0 0 20 ([(0, .ref 206), (1, .int a1)], [.int y2], rf_MM w m2)
    obtain ⟨q01, hg⟩ := rf_g_some hg
    obtain rfl := Option.some.inj hg
    exact rf_zret C hE (rf_01_of q01) (by decide +kernel)
-- X14_lengthOf
abbrev j_X14_lengthOf : rf_J := (14, yX14_lengthOf, cX14_lengthOf, 4, (some .int))
theorem mw_X14_lengthOf : rf_mv j_X14_lengthOf (rf_R 14) 1 := ⟨⟨rf_mem 56 (by decide +kernel), rf_mem 56 (by decide +kernel), rf_mem 0 (by decide +kernel), rf_mem 56 (by decide +kernel)⟩, by decide +kernel, by decide⟩
def g_X14_lengthOf_7_b (w : rf_w) (rec7 : Int32 → Int32 → Int32 → rf_m → Option (Int32 × rf_m)) (a1 : Int32) (a2 : Int32) (a3 : Int32) (m : rf_m) : Option (Int32 × rf_m) := rf_g (rf_in a1 6) ((if ((40 * a1) + (m.1 239 (Int32.toNatClampNeg a1))) ≤ a3 then some (a2, m) else rf_g (rf_in a3 240) (rf_g (rf_in a3 240) (rf_g (rf_in a3 240) (rf_g (rf_in a3 240) (rf_g (rf_in a3 240) (rf_g (rf_in a3 240) (rf_g (rf_nz (2 * (m.1 240 (Int32.toNatClampNeg a3)))) (rf_vi (a2 + (((m.1 240 (Int32.toNatClampNeg a3)) + ((((m.1 240 (Int32.toNatClampNeg a3)) * (m.1 206 56)) * ((m.1 241 (Int32.toNatClampNeg a3)) - 15)) / 100000)) - (((m.1 242 (Int32.toNatClampNeg a3)) * (m.1 242 (Int32.toNatClampNeg a3))) / (2 * (m.1 240 (Int32.toNatClampNeg a3)))))) fun x8 => rec7 a1 x8 (a3 + 1) m)))))))))
def g_X14_lengthOf_7 (w : rf_w) : Nat → Int32 → Int32 → Int32 → rf_m → Option (Int32 × rf_m)
  | 0, _, _, _, _ => none
  | n + 1, a1, a2, a3, m => g_X14_lengthOf_7_b w (g_X14_lengthOf_7 w n) a1 a2 a3 m
def g_X14_lengthOf (w : rf_w) (m : rf_m) (a1 : Int32) : Option (Int32 × rf_m) := g_X14_lengthOf_7 w rf_fuel a1 0 (40 * a1) m
theorem s_X14_lengthOf_7_b {w : rf_w} {K : rf_K} {r : Int32 × rf_m} (C : rf_Ctx 14 cX14_lengthOf 4 1 (rf_sh w) K) (hE : rf_End (some .int) K (rf_sh w) 0 0 (some (.int r.1)) (rf_MM w r.2)) {rec7 : Int32 → Int32 → Int32 → rf_m → Option (Int32 × rf_m)} (hr7 : ∀ (a1 : Int32) (a2 : Int32) (a3 : Int32) (m : rf_m), rec7 a1 a2 a3 m = some r → rf_V 4 (rf_sh w) K 0 0 7 ([(0, .ref 206), (1, .int a1), (2, .int a2), (3, .int a3)], [], rf_MM w m)) (a1 : Int32) (a2 : Int32) (a3 : Int32) (m : rf_m) (hg : g_X14_lengthOf_7_b w rec7 a1 a2 a3 m = some r) : rf_V 4 (rf_sh w) K 0 0 7 ([(0, .ref 206), (1, .int a1), (2, .int a2), (3, .int a3)], [], rf_MM w m) := by
  unfold g_X14_lengthOf_7_b at hg
  obtain ⟨q0, hg⟩ := rf_g_some hg
  refine rf_seg C [(.iload 3, 1), (.iconst 40, 2), (.iload 1, 1), (.imul, 1), (.aload 0, 1), (.invokeinterface 14 60, 3), (.iload 1, 1), (.iaload, 1), (.iadd, 1)] (pc' := 19) (S' := ([(0, .ref 206), (1, .int a1), (2, .int a2), (3, .int a3)], [.int ((40 * a1) + (m.1 239 (Int32.toNatClampNeg a1))), .int a3], rf_MM w m)) (by decide +kernel) rfl (rf_in_of q0) ?_
  refine rf_icmp_ge C 67 86 (by decide +kernel) (fun hc => ?_) (fun hc => ?_)
  · replace hg := (if_pos hc).symm.trans hg
    refine rf_seg C [(.iload 2, 1)] (pc' := 87) (S' := ([(0, .ref 206), (1, .int a1), (2, .int a2), (3, .int a3)], [.int a2], rf_MM w m)) (by decide +kernel) rfl trivial ?_
    obtain rfl := Option.some.inj hg
    exact rf_iret C hE (by decide +kernel)
  · replace hg := (if_neg hc).symm.trans hg
    obtain ⟨q1, hg⟩ := rf_g_some hg
    obtain ⟨q2, hg⟩ := rf_g_some hg
    obtain ⟨q3, hg⟩ := rf_g_some hg
    obtain ⟨q4, hg⟩ := rf_g_some hg
    obtain ⟨q5, hg⟩ := rf_g_some hg
    obtain ⟨q6, hg⟩ := rf_g_some hg
    obtain ⟨q7, hg⟩ := rf_g_some hg
    refine rf_seg C [(.iload 2, 1), (.aload 0, 1), (.invokeinterface 14 61, 3), (.iload 3, 1), (.iaload, 1), (.aload 0, 1), (.invokeinterface 14 61, 3), (.iload 3, 1), (.iaload, 1), (.aload 0, 1), (.invokeinterface 14 56, 3), (.imul, 1), (.aload 0, 1), (.invokeinterface 14 62, 3), (.iload 3, 1), (.iaload, 1), (.iconst 15, 2), (.isub, 1), (.imul, 1), (.iconst 100000, 3), (.idiv, 1), (.iadd, 1), (.aload 0, 1), (.invokeinterface 14 63, 3), (.iload 3, 1), (.iaload, 1), (.aload 0, 1), (.invokeinterface 14 63, 3), (.iload 3, 1), (.iaload, 1), (.imul, 1), (.iconst 2, 1), (.aload 0, 1), (.invokeinterface 14 61, 3), (.iload 3, 1), (.iaload, 1), (.imul, 1), (.idiv, 1), (.isub, 1), (.iadd, 1)] (pc' := 79) (S' := ([(0, .ref 206), (1, .int a1), (2, .int a2), (3, .int a3)], [.int (a2 + (((m.1 240 (Int32.toNatClampNeg a3)) + ((((m.1 240 (Int32.toNatClampNeg a3)) * (m.1 206 56)) * ((m.1 241 (Int32.toNatClampNeg a3)) - 15)) / 100000)) - (((m.1 242 (Int32.toNatClampNeg a3)) * (m.1 242 (Int32.toNatClampNeg a3))) / (2 * (m.1 240 (Int32.toNatClampNeg a3))))))], rf_MM w m)) (by decide +kernel) rfl (by exact ⟨(rf_in_of q1), (rf_in_of q2), (rf_in_of q3), (rf_nz_of (by decide)), (rf_in_of q4), (rf_in_of q5), (rf_in_of q6), (rf_nz_of q7)⟩) ?_
    obtain ⟨x8, hx8, hg⟩ := rf_vi_some hg
    refine rf_vi_top hx8 ?_
    refine rf_seg C [(.istore 2, 1), (.iinc 3 1, 3)] (pc' := 83) (S' := ([(3, .int (a3 + 1)), (2, .int x8), (0, .ref 206), (1, .int a1)], [], rf_MM w m)) (by decide +kernel) rfl trivial ?_
    refine rf_goto C (-76) 7 (by decide +kernel) ?_
    refine rf_few [2, 3, 1, 0] rfl ?_
    exact hr7 a1 x8 (a3 + 1) m hg
theorem s_X14_lengthOf_7 {w : rf_w} {K : rf_K} {r : Int32 × rf_m} (C : rf_Ctx 14 cX14_lengthOf 4 1 (rf_sh w) K) (hE : rf_End (some .int) K (rf_sh w) 0 0 (some (.int r.1)) (rf_MM w r.2)) (n : Nat) : ∀ (a1 : Int32) (a2 : Int32) (a3 : Int32) (m : rf_m), g_X14_lengthOf_7 w n a1 a2 a3 m = some r → rf_V 4 (rf_sh w) K 0 0 7 ([(0, .ref 206), (1, .int a1), (2, .int a2), (3, .int a3)], [], rf_MM w m) := by
  induction n with
  | zero => intro a1 a2 a3 m hg; cases hg
  | succ n ih => intro a1 a2 a3 m hg; exact s_X14_lengthOf_7_b C hE ih a1 a2 a3 m hg
theorem c_X14_lengthOf {w : rf_w} {m : rf_m} {a1 : Int32} {r : Int32 × rf_m} (hg : g_X14_lengthOf w m a1 = some r) : rf_Con j_X14_lengthOf 1 (rf_sh w) [.ref 206, .int a1] (rf_MM w m) (some (.int r.1)) (rf_MM w r.2) := by
  refine rf_con j_X14_lengthOf 1 ⟨by decide +kernel, rfl, Nat.le_of_ble_eq_true rfl⟩ (fun K C hE => ?_)
  unfold g_X14_lengthOf at hg
  show rf_V 4 (rf_sh w) K 0 0 0 ([(0, .ref 206), (1, .int a1)], [], rf_MM w m)
  refine rf_seg C [(.iconst 0, 1), (.istore 2, 1), (.iconst 40, 2), (.iload 1, 1), (.imul, 1), (.istore 3, 1)] (pc' := 7) (S' := ([(3, .int (40 * a1)), (2, .int 0), (0, .ref 206), (1, .int a1)], [], rf_MM w m)) (by decide +kernel) rfl trivial ?_
  refine rf_few [2, 3, 1, 0] rfl ?_
  exact s_X14_lengthOf_7 C hE rf_fuel a1 0 (40 * a1) m hg
-- X14_twinOf
abbrev j_X14_twinOf : rf_J := (14, yX14_twinOf, cX14_twinOf, 3, (some .int))
theorem mw_X14_twinOf : rf_mv j_X14_twinOf (rf_R 14) 1 := ⟨⟨rf_mem 57 (by decide +kernel), rf_mem 57 (by decide +kernel), rf_mem 0 (by decide +kernel), rf_mem 57 (by decide +kernel)⟩, by decide +kernel, by decide⟩
def g_X14_twinOf_37 (w : rf_w) (rec2 : Int32 → Int32 → rf_m → Option (Int32 × rf_m)) (a1 : Int32) (a2 : Int32) (m : rf_m) : Option (Int32 × rf_m) := rec2 a1 (a2 + 1) m
def g_X14_twinOf_2_b (w : rf_w) (rec2 : Int32 → Int32 → rf_m → Option (Int32 × rf_m)) (a1 : Int32) (a2 : Int32) (m : rf_m) : Option (Int32 × rf_m) := (if (m.1 206 55) ≤ a2 then some ((-1), m) else (if a2 = a1 then g_X14_twinOf_37 w rec2 a1 a2 m else rf_g (rf_in a1 6) (rf_g (rf_in a1 6) (rf_b (g_X14_isOf w m a2 (m.1 236 (Int32.toNatClampNeg a1)) (m.1 237 (Int32.toNatClampNeg a1))) fun y2 m2 => (if y2 = 0 then g_X14_twinOf_37 w rec2 a1 a2 m2 else some (a2, m2))))))
def g_X14_twinOf_2 (w : rf_w) : Nat → Int32 → Int32 → rf_m → Option (Int32 × rf_m)
  | 0, _, _, _ => none
  | n + 1, a1, a2, m => g_X14_twinOf_2_b w (g_X14_twinOf_2 w n) a1 a2 m
def g_X14_twinOf (w : rf_w) (m : rf_m) (a1 : Int32) : Option (Int32 × rf_m) := g_X14_twinOf_2 w rf_fuel a1 0 m
theorem s_X14_twinOf_37 {w : rf_w} {K : rf_K} {r : Int32 × rf_m} (C : rf_Ctx 14 cX14_twinOf 3 2 (rf_sh w) K) (hE : rf_End (some .int) K (rf_sh w) 0 0 (some (.int r.1)) (rf_MM w r.2)) {rec2 : Int32 → Int32 → rf_m → Option (Int32 × rf_m)} (hr2 : ∀ (a1 : Int32) (a2 : Int32) (m : rf_m), rec2 a1 a2 m = some r → rf_V 3 (rf_sh w) K 0 0 2 ([(0, .ref 206), (1, .int a1), (2, .int a2)], [], rf_MM w m)) (a1 : Int32) (a2 : Int32) (m : rf_m) (hg : g_X14_twinOf_37 w rec2 a1 a2 m = some r) : rf_V 3 (rf_sh w) K 0 0 37 ([(0, .ref 206), (1, .int a1), (2, .int a2)], [], rf_MM w m) := by
  unfold g_X14_twinOf_37 at hg
  refine rf_seg C [(.iinc 2 1, 3)] (pc' := 40) (S' := ([(2, .int (a2 + 1)), (0, .ref 206), (1, .int a1)], [], rf_MM w m)) (by decide +kernel) rfl trivial ?_
  refine rf_goto C (-38) 2 (by decide +kernel) ?_
  refine rf_few [1, 2, 0] rfl ?_
  exact hr2 a1 (a2 + 1) m hg
theorem s_X14_twinOf_2_b {w : rf_w} {K : rf_K} {r : Int32 × rf_m} (C : rf_Ctx 14 cX14_twinOf 3 2 (rf_sh w) K) (hE : rf_End (some .int) K (rf_sh w) 0 0 (some (.int r.1)) (rf_MM w r.2)) {rec2 : Int32 → Int32 → rf_m → Option (Int32 × rf_m)} (hr2 : ∀ (a1 : Int32) (a2 : Int32) (m : rf_m), rec2 a1 a2 m = some r → rf_V 3 (rf_sh w) K 0 0 2 ([(0, .ref 206), (1, .int a1), (2, .int a2)], [], rf_MM w m)) (a1 : Int32) (a2 : Int32) (m : rf_m) (hg : g_X14_twinOf_2_b w rec2 a1 a2 m = some r) : rf_V 3 (rf_sh w) K 0 0 2 ([(0, .ref 206), (1, .int a1), (2, .int a2)], [], rf_MM w m) := by
  unfold g_X14_twinOf_2_b at hg
  refine rf_seg C [(.iload 2, 1), (.aload 0, 1), (.invokeinterface 14 55, 3)] (pc' := 7) (S' := ([(0, .ref 206), (1, .int a1), (2, .int a2)], [.int (m.1 206 55), .int a2], rf_MM w m)) (by decide +kernel) rfl trivial ?_
  refine rf_icmp_ge C 36 43 (by decide +kernel) (fun hc => ?_) (fun hc => ?_)
  · replace hg := (if_pos hc).symm.trans hg
    refine rf_seg C [(.iconst (-1), 1)] (pc' := 44) (S' := ([(0, .ref 206), (1, .int a1), (2, .int a2)], [.int ((-1))], rf_MM w m)) (by decide +kernel) rfl trivial ?_
    obtain rfl := Option.some.inj hg
    exact rf_iret C hE (by decide +kernel)
  · replace hg := (if_neg hc).symm.trans hg
    refine rf_seg C [(.iload 2, 1), (.iload 1, 1)] (pc' := 12) (S' := ([(0, .ref 206), (1, .int a1), (2, .int a2)], [.int a1, .int a2], rf_MM w m)) (by decide +kernel) rfl trivial ?_
    refine rf_icmp_eq C 25 37 (by decide +kernel) (fun hc => ?_) (fun hc => ?_)
    · replace hg := (if_pos hc).symm.trans hg
      refine rf_few [0, 1, 2] rfl ?_
      exact s_X14_twinOf_37 C hE hr2 a1 a2 m hg
    · replace hg := (if_neg hc).symm.trans hg
      obtain ⟨q0, hg⟩ := rf_g_some hg
      obtain ⟨q1, hg⟩ := rf_g_some hg
      refine rf_seg C [(.aload 0, 1), (.iload 2, 1), (.aload 0, 1), (.invokeinterface 14 57, 3), (.iload 1, 1), (.iaload, 1), (.aload 0, 1), (.invokeinterface 14 58, 3), (.iload 1, 1), (.iaload, 1)] (pc' := 29) (S' := ([(0, .ref 206), (1, .int a1), (2, .int a2)], [.int (m.1 237 (Int32.toNatClampNeg a1)), .int (m.1 236 (Int32.toNatClampNeg a1)), .int a2, .ref 206], rf_MM w m)) (by decide +kernel) rfl (by exact ⟨(rf_in_of q0), (rf_in_of q1)⟩) ?_
      obtain ⟨y2, m2, hc2, hg⟩ := rf_b_some hg
      refine rf_callv C rf_fit0 j_X14_isOf (ci := 14) (As := [.int a2, .int (m.1 236 (Int32.toNatClampNeg a1)), .int (m.1 237 (Int32.toNatClampNeg a1))]) (rest := []) mw_X14_isOf (c_X14_isOf hc2) (by decide) rfl (by decide) lk_14_669 rfl rfl (Nat.le_of_ble_eq_true rfl) (by decide +kernel) ?_
      show rf_V 3 (rf_sh w) K 0 0 32 ([(0, .ref 206), (1, .int a1), (2, .int a2)], [.int y2], rf_MM w m2)
      refine rf_if_eq C 5 37 (by decide +kernel) (fun hc => ?_) (fun hc => ?_)
      · replace hg := (if_pos hc).symm.trans hg
        refine rf_few [0, 1, 2] rfl ?_
        exact s_X14_twinOf_37 C hE hr2 a1 a2 m2 hg
      · replace hg := (if_neg hc).symm.trans hg
        refine rf_seg C [(.iload 2, 1)] (pc' := 36) (S' := ([(0, .ref 206), (1, .int a1), (2, .int a2)], [.int a2], rf_MM w m2)) (by decide +kernel) rfl trivial ?_
        obtain rfl := Option.some.inj hg
        exact rf_iret C hE (by decide +kernel)
theorem s_X14_twinOf_2 {w : rf_w} {K : rf_K} {r : Int32 × rf_m} (C : rf_Ctx 14 cX14_twinOf 3 2 (rf_sh w) K) (hE : rf_End (some .int) K (rf_sh w) 0 0 (some (.int r.1)) (rf_MM w r.2)) (n : Nat) : ∀ (a1 : Int32) (a2 : Int32) (m : rf_m), g_X14_twinOf_2 w n a1 a2 m = some r → rf_V 3 (rf_sh w) K 0 0 2 ([(0, .ref 206), (1, .int a1), (2, .int a2)], [], rf_MM w m) := by
  induction n with
  | zero => intro a1 a2 m hg; cases hg
  | succ n ih => intro a1 a2 m hg; exact s_X14_twinOf_2_b C hE ih a1 a2 m hg
theorem c_X14_twinOf {w : rf_w} {m : rf_m} {a1 : Int32} {r : Int32 × rf_m} (hg : g_X14_twinOf w m a1 = some r) : rf_Con j_X14_twinOf 2 (rf_sh w) [.ref 206, .int a1] (rf_MM w m) (some (.int r.1)) (rf_MM w r.2) := by
  refine rf_con j_X14_twinOf 2 ⟨by decide +kernel, rfl, Nat.le_of_ble_eq_true rfl⟩ (fun K C hE => ?_)
  unfold g_X14_twinOf at hg
  show rf_V 3 (rf_sh w) K 0 0 0 ([(0, .ref 206), (1, .int a1)], [], rf_MM w m)
  refine rf_seg C [(.iconst 0, 1), (.istore 2, 1)] (pc' := 2) (S' := ([(2, .int 0), (0, .ref 206), (1, .int a1)], [], rf_MM w m)) (by decide +kernel) rfl trivial ?_
  refine rf_few [1, 2, 0] rfl ?_
  exact s_X14_twinOf_2 C hE rf_fuel a1 0 m hg
-- X14_isTorn
abbrev j_X14_isTorn : rf_J := (14, yX14_isTorn, cX14_isTorn, 3, (some .boolean))
theorem mw_X14_isTorn : rf_mv j_X14_isTorn (rf_R 14) 2 := ⟨⟨rf_mem 57 (by decide +kernel), rf_mem 57 (by decide +kernel), rf_mem 0 (by decide +kernel), rf_mem 57 (by decide +kernel)⟩, by decide +kernel, by decide⟩
def g_X14_isTorn (w : rf_w) (m : rf_m) (a1 : Int32) (a2 : Int32) : Option (Int32 × rf_m) := rf_b (g_X14_lengthOf w m a1) fun y0 m0 => rf_g (rf_in a1 6) (rf_b (g_X14_lengthOf w m0 a2) fun y2 m2 => rf_g (rf_in a2 6) (rf_b (g_max w m2 (y0 - (m0.1 239 (Int32.toNatClampNeg a1))) (y2 - (m2.1 239 (Int32.toNatClampNeg a2)))) fun y4 m4 => rf_b (g_X14_lengthOf w m4 a1) fun y5 m5 => rf_g (rf_in a1 6) (rf_b (g_X14_lengthOf w m5 a2) fun y7 m7 => rf_g (rf_in a2 6) (rf_b (g_min w m7 (y5 + (m5.1 239 (Int32.toNatClampNeg a1))) (y7 + (m7.1 239 (Int32.toNatClampNeg a2)))) fun y9 m9 => (if y4 ≤ y9 then some (0, m9) else some (1, m9))))))
theorem c_X14_isTorn {w : rf_w} {m : rf_m} {a1 : Int32} {a2 : Int32} {r : Int32 × rf_m} (hg : g_X14_isTorn w m a1 a2 = some r) : rf_Con j_X14_isTorn 2 (rf_sh w) [.ref 206, .int a1, .int a2] (rf_MM w m) (some (.int r.1)) (rf_MM w r.2) := by
  refine rf_con j_X14_isTorn 2 ⟨by decide +kernel, rfl, Nat.le_of_ble_eq_true rfl⟩ (fun K C hE => ?_)
  unfold g_X14_isTorn at hg
  show rf_V 3 (rf_sh w) K 0 0 0 ([(0, .ref 206), (1, .int a1), (2, .int a2)], [], rf_MM w m)
  refine rf_seg C [(.aload 0, 1), (.iload 1, 1)] (pc' := 2) (S' := ([(0, .ref 206), (1, .int a1), (2, .int a2)], [.int a1, .ref 206], rf_MM w m)) (by decide +kernel) rfl trivial ?_
  obtain ⟨y0, m0, hc0, hg⟩ := rf_b_some hg
  refine rf_callv C rf_fit0 j_X14_lengthOf (ci := 14) (As := [.int a1]) (rest := []) mw_X14_lengthOf (c_X14_lengthOf hc0) (by decide) rfl (by decide) lk_14_676 rfl rfl (Nat.le_of_ble_eq_true rfl) (by decide +kernel) ?_
  show rf_V 3 (rf_sh w) K 0 0 5 ([(0, .ref 206), (1, .int a1), (2, .int a2)], [.int y0], rf_MM w m0)
  obtain ⟨q1, hg⟩ := rf_g_some hg
  refine rf_seg C [(.aload 0, 1), (.invokeinterface 14 60, 3), (.iload 1, 1), (.iaload, 1), (.isub, 1), (.aload 0, 1), (.iload 2, 1)] (pc' := 14) (S' := ([(0, .ref 206), (1, .int a1), (2, .int a2)], [.int a2, .ref 206, .int (y0 - (m0.1 239 (Int32.toNatClampNeg a1)))], rf_MM w m0)) (by decide +kernel) rfl (rf_in_of q1) ?_
  obtain ⟨y2, m2, hc2, hg⟩ := rf_b_some hg
  refine rf_callv C rf_fit0 j_X14_lengthOf (ci := 14) (As := [.int a2]) (rest := [.int (y0 - (m0.1 239 (Int32.toNatClampNeg a1)))]) mw_X14_lengthOf (c_X14_lengthOf hc2) (by decide) rfl (by decide) lk_14_676 rfl rfl (Nat.le_of_ble_eq_true rfl) (by decide +kernel) ?_
  show rf_V 3 (rf_sh w) K 0 0 17 ([(0, .ref 206), (1, .int a1), (2, .int a2)], [.int y2, .int (y0 - (m0.1 239 (Int32.toNatClampNeg a1)))], rf_MM w m2)
  obtain ⟨q3, hg⟩ := rf_g_some hg
  refine rf_seg C [(.aload 0, 1), (.invokeinterface 14 60, 3), (.iload 2, 1), (.iaload, 1), (.isub, 1)] (pc' := 24) (S' := ([(0, .ref 206), (1, .int a1), (2, .int a2)], [.int (y2 - (m2.1 239 (Int32.toNatClampNeg a2))), .int (y0 - (m0.1 239 (Int32.toNatClampNeg a1)))], rf_MM w m2)) (by decide +kernel) rfl (rf_in_of q3) ?_
  obtain ⟨y4, m4, hc4, hg⟩ := rf_b_some hg
  refine rf_calls C rf_fit0 j_max (As := [.int (y0 - (m0.1 239 (Int32.toNatClampNeg a1))), .int (y2 - (m2.1 239 (Int32.toNatClampNeg a2)))]) (rest := []) mw_max (c_max hc4) (by decide) lk_14_375 rfl rfl (Nat.le_of_ble_eq_true rfl) (by decide +kernel) ?_
  show rf_V 3 (rf_sh w) K 0 0 27 ([(0, .ref 206), (1, .int a1), (2, .int a2)], [.int y4], rf_MM w m4)
  refine rf_seg C [(.aload 0, 1), (.iload 1, 1)] (pc' := 29) (S' := ([(0, .ref 206), (1, .int a1), (2, .int a2)], [.int a1, .ref 206, .int y4], rf_MM w m4)) (by decide +kernel) rfl trivial ?_
  obtain ⟨y5, m5, hc5, hg⟩ := rf_b_some hg
  refine rf_callv C rf_fit0 j_X14_lengthOf (ci := 14) (As := [.int a1]) (rest := [.int y4]) mw_X14_lengthOf (c_X14_lengthOf hc5) (by decide) rfl (by decide) lk_14_676 rfl rfl (Nat.le_of_ble_eq_true rfl) (by decide +kernel) ?_
  show rf_V 3 (rf_sh w) K 0 0 32 ([(0, .ref 206), (1, .int a1), (2, .int a2)], [.int y5, .int y4], rf_MM w m5)
  obtain ⟨q6, hg⟩ := rf_g_some hg
  refine rf_seg C [(.aload 0, 1), (.invokeinterface 14 60, 3), (.iload 1, 1), (.iaload, 1), (.iadd, 1), (.aload 0, 1), (.iload 2, 1)] (pc' := 41) (S' := ([(0, .ref 206), (1, .int a1), (2, .int a2)], [.int a2, .ref 206, .int (y5 + (m5.1 239 (Int32.toNatClampNeg a1))), .int y4], rf_MM w m5)) (by decide +kernel) rfl (rf_in_of q6) ?_
  obtain ⟨y7, m7, hc7, hg⟩ := rf_b_some hg
  refine rf_callv C rf_fit0 j_X14_lengthOf (ci := 14) (As := [.int a2]) (rest := [.int (y5 + (m5.1 239 (Int32.toNatClampNeg a1))), .int y4]) mw_X14_lengthOf (c_X14_lengthOf hc7) (by decide) rfl (by decide) lk_14_676 rfl rfl (Nat.le_of_ble_eq_true rfl) (by decide +kernel) ?_
  show rf_V 3 (rf_sh w) K 0 0 44 ([(0, .ref 206), (1, .int a1), (2, .int a2)], [.int y7, .int (y5 + (m5.1 239 (Int32.toNatClampNeg a1))), .int y4], rf_MM w m7)
  obtain ⟨q8, hg⟩ := rf_g_some hg
  refine rf_seg C [(.aload 0, 1), (.invokeinterface 14 60, 3), (.iload 2, 1), (.iaload, 1), (.iadd, 1)] (pc' := 51) (S' := ([(0, .ref 206), (1, .int a1), (2, .int a2)], [.int (y7 + (m7.1 239 (Int32.toNatClampNeg a2))), .int (y5 + (m5.1 239 (Int32.toNatClampNeg a1))), .int y4], rf_MM w m7)) (by decide +kernel) rfl (rf_in_of q8) ?_
  obtain ⟨y9, m9, hc9, hg⟩ := rf_b_some hg
  refine rf_calls C rf_fit0 j_min (As := [.int (y5 + (m5.1 239 (Int32.toNatClampNeg a1))), .int (y7 + (m7.1 239 (Int32.toNatClampNeg a2)))]) (rest := [.int y4]) mw_min (c_min hc9) (by decide) lk_14_443 rfl rfl (Nat.le_of_ble_eq_true rfl) (by decide +kernel) ?_
  show rf_V 3 (rf_sh w) K 0 0 54 ([(0, .ref 206), (1, .int a1), (2, .int a2)], [.int y9, .int y4], rf_MM w m9)
  refine rf_icmp_le C 7 61 (by decide +kernel) (fun hc => ?_) (fun hc => ?_)
  · replace hg := (if_pos hc).symm.trans hg
    refine rf_seg C [(.iconst 0, 1)] (pc' := 62) (S' := ([(0, .ref 206), (1, .int a1), (2, .int a2)], [.int 0], rf_MM w m9)) (by decide +kernel) rfl trivial ?_
    obtain rfl := Option.some.inj hg
    exact rf_zret C hE (by decide) (by decide +kernel)
  · replace hg := (if_neg hc).symm.trans hg
    refine rf_seg C [(.iconst 1, 1)] (pc' := 58) (S' := ([(0, .ref 206), (1, .int a1), (2, .int a2)], [.int 1], rf_MM w m9)) (by decide +kernel) rfl trivial ?_
    refine rf_goto C 4 62 (by decide +kernel) ?_
    obtain rfl := Option.some.inj hg
    exact rf_zret C hE (by decide) (by decide +kernel)
-- X14_spanOf
abbrev j_X14_spanOf : rf_J := (14, yX14_spanOf, cX14_spanOf, 6, (some .int))
theorem mw_X14_spanOf : rf_mv j_X14_spanOf (rf_R 14) 2 := ⟨⟨rf_mem 57 (by decide +kernel), rf_mem 57 (by decide +kernel), rf_mem 0 (by decide +kernel), rf_mem 57 (by decide +kernel)⟩, by decide +kernel, by decide⟩
def g_X14_spanOf_78 (w : rf_w) (a1 : Int32) (a2 : Int32) (a3 : Int32) (a4 : Int32) (s0 : Int32) (m : rf_m) : Option (Int32 × rf_m) := rf_b (g_X14_isTorn w m a1 a3) fun y0 m0 => (if a2 = y0 then rf_b (g_max w m0 a4 s0) fun y2 m2 => some (y2, m2) else rf_b (g_min w m0 a4 s0) fun y1 m1 => some (y1, m1))
def g_X14_spanOf_37 (w : rf_w) (a1 : Int32) (a2 : Int32) (a3 : Int32) (s0 : Int32) (m : rf_m) : Option (Int32 × rf_m) := (if a3 = ((-1)) then some (s0, m) else (if a2 = 0 then rf_b (g_X14_lengthOf w m a3) fun y0 m0 => rf_g (rf_in a3 6) (g_X14_spanOf_78 w a1 a2 a3 s0 (y0 - (m0.1 239 (Int32.toNatClampNeg a3))) m0) else rf_b (g_X14_lengthOf w m a3) fun y2 m2 => rf_g (rf_in a3 6) (g_X14_spanOf_78 w a1 a2 a3 s0 (y2 + (m2.1 239 (Int32.toNatClampNeg a3))) m2)))
def g_X14_spanOf (w : rf_w) (m : rf_m) (a1 : Int32) (a2 : Int32) : Option (Int32 × rf_m) := rf_b (g_X14_twinOf w m a1) fun y0 m0 => (if a2 = 0 then rf_b (g_X14_lengthOf w m0 a1) fun y1 m1 => rf_g (rf_in a1 6) (g_X14_spanOf_37 w a1 a2 y0 (y1 - (m1.1 239 (Int32.toNatClampNeg a1))) m1) else rf_b (g_X14_lengthOf w m0 a1) fun y3 m3 => rf_g (rf_in a1 6) (g_X14_spanOf_37 w a1 a2 y0 (y3 + (m3.1 239 (Int32.toNatClampNeg a1))) m3))
theorem s_X14_spanOf_78 {w : rf_w} {K : rf_K} {r : Int32 × rf_m} (C : rf_Ctx 14 cX14_spanOf 6 3 (rf_sh w) K) (hE : rf_End (some .int) K (rf_sh w) 0 0 (some (.int r.1)) (rf_MM w r.2)) (a1 : Int32) (a2 : Int32) (a3 : Int32) (a4 : Int32) (s0 : Int32) (m : rf_m) (hg : g_X14_spanOf_78 w a1 a2 a3 a4 s0 m = some r) : rf_V 6 (rf_sh w) K 0 0 78 ([(0, .ref 206), (1, .int a1), (2, .int a2), (3, .int a3), (4, .int a4)], [.int s0], rf_MM w m) := by
  unfold g_X14_spanOf_78 at hg
  refine rf_seg C [(.istore 5, 2), (.iload 2, 1), (.aload 0, 1), (.iload 1, 1), (.iload 3, 1)] (pc' := 84) (S' := ([(5, .int s0), (0, .ref 206), (1, .int a1), (2, .int a2), (3, .int a3), (4, .int a4)], [.int a3, .int a1, .ref 206, .int a2], rf_MM w m)) (by decide +kernel) rfl trivial ?_
  obtain ⟨y0, m0, hc0, hg⟩ := rf_b_some hg
  refine rf_callv C rf_fit0 j_X14_isTorn (ci := 14) (As := [.int a1, .int a3]) (rest := [.int a2]) mw_X14_isTorn (c_X14_isTorn hc0) (by decide) rfl (by decide) lk_14_682 rfl rfl (Nat.le_of_ble_eq_true rfl) (by decide +kernel) ?_
  show rf_V 6 (rf_sh w) K 0 0 87 ([(5, .int s0), (0, .ref 206), (1, .int a1), (2, .int a2), (3, .int a3), (4, .int a4)], [.int y0, .int a2], rf_MM w m0)
  refine rf_icmp_ne C 13 100 (by decide +kernel) (fun hc => ?_) (fun hc => ?_)
  · replace hg := (if_neg hc).symm.trans hg
    refine rf_seg C [(.iload 4, 2), (.iload 5, 2)] (pc' := 104) (S' := ([(5, .int s0), (0, .ref 206), (1, .int a1), (2, .int a2), (3, .int a3), (4, .int a4)], [.int s0, .int a4], rf_MM w m0)) (by decide +kernel) rfl trivial ?_
    obtain ⟨y1, m1, hc1, hg⟩ := rf_b_some hg
    refine rf_calls C rf_fit0 j_min (As := [.int a4, .int s0]) (rest := []) mw_min (c_min hc1) (by decide) lk_14_443 rfl rfl (Nat.le_of_ble_eq_true rfl) (by decide +kernel) ?_
    show rf_V 6 (rf_sh w) K 0 0 107 ([(5, .int s0), (0, .ref 206), (1, .int a1), (2, .int a2), (3, .int a3), (4, .int a4)], [.int y1], rf_MM w m1)
    obtain rfl := Option.some.inj hg
    exact rf_iret C hE (by decide +kernel)
  · replace hg := (if_pos hc).symm.trans hg
    refine rf_seg C [(.iload 4, 2), (.iload 5, 2)] (pc' := 94) (S' := ([(5, .int s0), (0, .ref 206), (1, .int a1), (2, .int a2), (3, .int a3), (4, .int a4)], [.int s0, .int a4], rf_MM w m0)) (by decide +kernel) rfl trivial ?_
    obtain ⟨y2, m2, hc2, hg⟩ := rf_b_some hg
    refine rf_calls C rf_fit0 j_max (As := [.int a4, .int s0]) (rest := []) mw_max (c_max hc2) (by decide) lk_14_375 rfl rfl (Nat.le_of_ble_eq_true rfl) (by decide +kernel) ?_
    show rf_V 6 (rf_sh w) K 0 0 97 ([(5, .int s0), (0, .ref 206), (1, .int a1), (2, .int a2), (3, .int a3), (4, .int a4)], [.int y2], rf_MM w m2)
    refine rf_goto C 10 107 (by decide +kernel) ?_
    obtain rfl := Option.some.inj hg
    exact rf_iret C hE (by decide +kernel)
theorem s_X14_spanOf_37 {w : rf_w} {K : rf_K} {r : Int32 × rf_m} (C : rf_Ctx 14 cX14_spanOf 6 3 (rf_sh w) K) (hE : rf_End (some .int) K (rf_sh w) 0 0 (some (.int r.1)) (rf_MM w r.2)) (a1 : Int32) (a2 : Int32) (a3 : Int32) (s0 : Int32) (m : rf_m) (hg : g_X14_spanOf_37 w a1 a2 a3 s0 m = some r) : rf_V 6 (rf_sh w) K 0 0 37 ([(0, .ref 206), (1, .int a1), (2, .int a2), (3, .int a3)], [.int s0], rf_MM w m) := by
  unfold g_X14_spanOf_37 at hg
  refine rf_seg C [(.istore 4, 2), (.iload 3, 1), (.iconst (-1), 1)] (pc' := 41) (S' := ([(4, .int s0), (0, .ref 206), (1, .int a1), (2, .int a2), (3, .int a3)], [.int ((-1)), .int a3], rf_MM w m)) (by decide +kernel) rfl trivial ?_
  refine rf_icmp_ne C 6 47 (by decide +kernel) (fun hc => ?_) (fun hc => ?_)
  · replace hg := (if_neg hc).symm.trans hg
    refine rf_seg C [(.iload 2, 1)] (pc' := 48) (S' := ([(4, .int s0), (0, .ref 206), (1, .int a1), (2, .int a2), (3, .int a3)], [.int a2], rf_MM w m)) (by decide +kernel) rfl trivial ?_
    refine rf_if_eq C 18 66 (by decide +kernel) (fun hc => ?_) (fun hc => ?_)
    · replace hg := (if_pos hc).symm.trans hg
      refine rf_seg C [(.aload 0, 1), (.iload 3, 1)] (pc' := 68) (S' := ([(4, .int s0), (0, .ref 206), (1, .int a1), (2, .int a2), (3, .int a3)], [.int a3, .ref 206], rf_MM w m)) (by decide +kernel) rfl trivial ?_
      obtain ⟨y0, m0, hc0, hg⟩ := rf_b_some hg
      refine rf_callv C rf_fit0 j_X14_lengthOf (ci := 14) (As := [.int a3]) (rest := []) mw_X14_lengthOf (c_X14_lengthOf hc0) (by decide) rfl (by decide) lk_14_676 rfl rfl (Nat.le_of_ble_eq_true rfl) (by decide +kernel) ?_
      show rf_V 6 (rf_sh w) K 0 0 71 ([(4, .int s0), (0, .ref 206), (1, .int a1), (2, .int a2), (3, .int a3)], [.int y0], rf_MM w m0)
      obtain ⟨q1, hg⟩ := rf_g_some hg
      refine rf_seg C [(.aload 0, 1), (.invokeinterface 14 60, 3), (.iload 3, 1), (.iaload, 1), (.isub, 1)] (pc' := 78) (S' := ([(4, .int s0), (0, .ref 206), (1, .int a1), (2, .int a2), (3, .int a3)], [.int (y0 - (m0.1 239 (Int32.toNatClampNeg a3)))], rf_MM w m0)) (by decide +kernel) rfl (rf_in_of q1) ?_
      refine rf_few [1, 2, 3, 4, 0] rfl ?_
      exact s_X14_spanOf_78 C hE a1 a2 a3 s0 (y0 - (m0.1 239 (Int32.toNatClampNeg a3))) m0 hg
    · replace hg := (if_neg hc).symm.trans hg
      refine rf_seg C [(.aload 0, 1), (.iload 3, 1)] (pc' := 53) (S' := ([(4, .int s0), (0, .ref 206), (1, .int a1), (2, .int a2), (3, .int a3)], [.int a3, .ref 206], rf_MM w m)) (by decide +kernel) rfl trivial ?_
      obtain ⟨y2, m2, hc2, hg⟩ := rf_b_some hg
      refine rf_callv C rf_fit0 j_X14_lengthOf (ci := 14) (As := [.int a3]) (rest := []) mw_X14_lengthOf (c_X14_lengthOf hc2) (by decide) rfl (by decide) lk_14_676 rfl rfl (Nat.le_of_ble_eq_true rfl) (by decide +kernel) ?_
      show rf_V 6 (rf_sh w) K 0 0 56 ([(4, .int s0), (0, .ref 206), (1, .int a1), (2, .int a2), (3, .int a3)], [.int y2], rf_MM w m2)
      obtain ⟨q3, hg⟩ := rf_g_some hg
      refine rf_seg C [(.aload 0, 1), (.invokeinterface 14 60, 3), (.iload 3, 1), (.iaload, 1), (.iadd, 1)] (pc' := 63) (S' := ([(4, .int s0), (0, .ref 206), (1, .int a1), (2, .int a2), (3, .int a3)], [.int (y2 + (m2.1 239 (Int32.toNatClampNeg a3)))], rf_MM w m2)) (by decide +kernel) rfl (rf_in_of q3) ?_
      refine rf_goto C 15 78 (by decide +kernel) ?_
      refine rf_few [1, 2, 3, 4, 0] rfl ?_
      exact s_X14_spanOf_78 C hE a1 a2 a3 s0 (y2 + (m2.1 239 (Int32.toNatClampNeg a3))) m2 hg
  · replace hg := (if_pos hc).symm.trans hg
    refine rf_seg C [(.iload 4, 2)] (pc' := 46) (S' := ([(4, .int s0), (0, .ref 206), (1, .int a1), (2, .int a2), (3, .int a3)], [.int s0], rf_MM w m)) (by decide +kernel) rfl trivial ?_
    obtain rfl := Option.some.inj hg
    exact rf_iret C hE (by decide +kernel)
theorem c_X14_spanOf {w : rf_w} {m : rf_m} {a1 : Int32} {a2 : Int32} {r : Int32 × rf_m} (hg : g_X14_spanOf w m a1 a2 = some r) : rf_Con j_X14_spanOf 3 (rf_sh w) [.ref 206, .int a1, .int a2] (rf_MM w m) (some (.int r.1)) (rf_MM w r.2) := by
  refine rf_con j_X14_spanOf 3 ⟨by decide +kernel, rfl, Nat.le_of_ble_eq_true rfl⟩ (fun K C hE => ?_)
  unfold g_X14_spanOf at hg
  show rf_V 6 (rf_sh w) K 0 0 0 ([(0, .ref 206), (1, .int a1), (2, .int a2)], [], rf_MM w m)
  refine rf_seg C [(.aload 0, 1), (.iload 1, 1)] (pc' := 2) (S' := ([(0, .ref 206), (1, .int a1), (2, .int a2)], [.int a1, .ref 206], rf_MM w m)) (by decide +kernel) rfl trivial ?_
  obtain ⟨y0, m0, hc0, hg⟩ := rf_b_some hg
  refine rf_callv C rf_fit0 j_X14_twinOf (ci := 14) (As := [.int a1]) (rest := []) mw_X14_twinOf (c_X14_twinOf hc0) (by decide) rfl (by decide) lk_14_679 rfl rfl (Nat.le_of_ble_eq_true rfl) (by decide +kernel) ?_
  show rf_V 6 (rf_sh w) K 0 0 5 ([(0, .ref 206), (1, .int a1), (2, .int a2)], [.int y0], rf_MM w m0)
  refine rf_seg C [(.istore 3, 1), (.iload 2, 1)] (pc' := 7) (S' := ([(3, .int y0), (0, .ref 206), (1, .int a1), (2, .int a2)], [.int a2], rf_MM w m0)) (by decide +kernel) rfl trivial ?_
  refine rf_if_eq C 18 25 (by decide +kernel) (fun hc => ?_) (fun hc => ?_)
  · replace hg := (if_pos hc).symm.trans hg
    refine rf_seg C [(.aload 0, 1), (.iload 1, 1)] (pc' := 27) (S' := ([(3, .int y0), (0, .ref 206), (1, .int a1), (2, .int a2)], [.int a1, .ref 206], rf_MM w m0)) (by decide +kernel) rfl trivial ?_
    obtain ⟨y1, m1, hc1, hg⟩ := rf_b_some hg
    refine rf_callv C rf_fit0 j_X14_lengthOf (ci := 14) (As := [.int a1]) (rest := []) mw_X14_lengthOf (c_X14_lengthOf hc1) (by decide) rfl (by decide) lk_14_676 rfl rfl (Nat.le_of_ble_eq_true rfl) (by decide +kernel) ?_
    show rf_V 6 (rf_sh w) K 0 0 30 ([(3, .int y0), (0, .ref 206), (1, .int a1), (2, .int a2)], [.int y1], rf_MM w m1)
    obtain ⟨q2, hg⟩ := rf_g_some hg
    refine rf_seg C [(.aload 0, 1), (.invokeinterface 14 60, 3), (.iload 1, 1), (.iaload, 1), (.isub, 1)] (pc' := 37) (S' := ([(3, .int y0), (0, .ref 206), (1, .int a1), (2, .int a2)], [.int (y1 - (m1.1 239 (Int32.toNatClampNeg a1)))], rf_MM w m1)) (by decide +kernel) rfl (rf_in_of q2) ?_
    refine rf_few [1, 2, 3, 0] rfl ?_
    exact s_X14_spanOf_37 C hE a1 a2 y0 (y1 - (m1.1 239 (Int32.toNatClampNeg a1))) m1 hg
  · replace hg := (if_neg hc).symm.trans hg
    refine rf_seg C [(.aload 0, 1), (.iload 1, 1)] (pc' := 12) (S' := ([(3, .int y0), (0, .ref 206), (1, .int a1), (2, .int a2)], [.int a1, .ref 206], rf_MM w m0)) (by decide +kernel) rfl trivial ?_
    obtain ⟨y3, m3, hc3, hg⟩ := rf_b_some hg
    refine rf_callv C rf_fit0 j_X14_lengthOf (ci := 14) (As := [.int a1]) (rest := []) mw_X14_lengthOf (c_X14_lengthOf hc3) (by decide) rfl (by decide) lk_14_676 rfl rfl (Nat.le_of_ble_eq_true rfl) (by decide +kernel) ?_
    show rf_V 6 (rf_sh w) K 0 0 15 ([(3, .int y0), (0, .ref 206), (1, .int a1), (2, .int a2)], [.int y3], rf_MM w m3)
    obtain ⟨q4, hg⟩ := rf_g_some hg
    refine rf_seg C [(.aload 0, 1), (.invokeinterface 14 60, 3), (.iload 1, 1), (.iaload, 1), (.iadd, 1)] (pc' := 22) (S' := ([(3, .int y0), (0, .ref 206), (1, .int a1), (2, .int a2)], [.int (y3 + (m3.1 239 (Int32.toNatClampNeg a1)))], rf_MM w m3)) (by decide +kernel) rfl (rf_in_of q4) ?_
    refine rf_goto C 15 37 (by decide +kernel) ?_
    refine rf_few [1, 2, 3, 0] rfl ?_
    exact s_X14_spanOf_37 C hE a1 a2 y0 (y3 + (m3.1 239 (Int32.toNatClampNeg a1))) m3 hg
-- X14_baseOf
abbrev j_X14_baseOf : rf_J := (14, yX14_baseOf, cX14_baseOf, 3, (some .int))
theorem mw_X14_baseOf : rf_mv j_X14_baseOf (rf_R 14) 2 := ⟨⟨rf_mem 56 (by decide +kernel), rf_mem 56 (by decide +kernel), rf_mem 0 (by decide +kernel), rf_mem 56 (by decide +kernel)⟩, by decide +kernel, by decide⟩
def g_X14_baseOf (w : rf_w) (m : rf_m) (a1 : Int32) (a2 : Int32) : Option (Int32 × rf_m) := rf_b (g_X14_isBase w (rf_i m 206 0 0) a1) fun y0 m0 => (if y0 = 0 then some ((-1), m0) else (if a2 = 0 then rf_b (g_X14_lengthOf w m0 a1) fun y1 m1 => some (y1, m1) else if a2 = 1 then rf_g (rf_in a1 6) (some (m0.1 239 (Int32.toNatClampNeg a1), m0)) else if a2 = 2 then rf_b (g_X14_spanOf w m0 a1 0) fun y3 m3 => some (y3, m3) else if a2 = 3 then rf_b (g_X14_spanOf w m0 a1 1) fun y4 m4 => some (y4, m4) else if a2 = 4 then rf_b (g_X14_twinOf w m0 a1) fun y5 m5 => (if y5 = ((-1)) then some (0, m5) else rf_b (g_X14_twinOf w m5 a1) fun y6 m6 => rf_b (g_X14_isTorn w m6 a1 y6) fun y7 m7 => (if y7 = 0 then some (1, m7) else some (2, m7))) else some ((-1), m0)))
theorem c_X14_baseOf {w : rf_w} {m : rf_m} {a1 : Int32} {a2 : Int32} {r : Int32 × rf_m} (hg : g_X14_baseOf w m a1 a2 = some r) : rf_Con j_X14_baseOf 4 (rf_sh w) [.ref 206, .int a1, .int a2] (rf_MM w m) (some (.int r.1)) (rf_MM w r.2) := by
  refine rf_con j_X14_baseOf 4 ⟨by decide +kernel, rfl, Nat.le_of_ble_eq_true rfl⟩ (fun K C hE => ?_)
  unfold g_X14_baseOf at hg
  show rf_V 3 (rf_sh w) K 0 0 0 ([(0, .ref 206), (1, .int a1), (2, .int a2)], [], rf_MM w m)
  refine rf_seg C [(.aload 0, 1), (.iconst 0, 1), (.multianewarray 14 0, 3), (.aload 0, 1), (.iload 1, 1)] (pc' := 7) (S' := ([(0, .ref 206), (1, .int a1), (2, .int a2)], [.int a1, .ref 206], rf_MM w (rf_i m 206 0 0))) (by decide +kernel) rfl trivial ?_
  obtain ⟨y0, m0, hc0, hg⟩ := rf_b_some hg
  refine rf_callv C rf_fit0 j_X14_isBase (ci := 14) (As := [.int a1]) (rest := []) mw_X14_isBase (c_X14_isBase hc0) (by decide) rfl (by decide) lk_14_672 rfl rfl (Nat.le_of_ble_eq_true rfl) (by decide +kernel) ?_
  show rf_V 3 (rf_sh w) K 0 0 10 ([(0, .ref 206), (1, .int a1), (2, .int a2)], [.int y0], rf_MM w m0)
  refine rf_if_ne C 5 15 (by decide +kernel) (fun hc => ?_) (fun hc => ?_)
  · replace hg := (if_neg hc).symm.trans hg
    refine rf_seg C [(.iload 2, 1)] (pc' := 16) (S' := ([(0, .ref 206), (1, .int a1), (2, .int a2)], [.int a2], rf_MM w m0)) (by decide +kernel) rfl trivial ?_
    by_cases ht0 : a2 = 0
    · replace hg := (if_pos ht0).symm.trans hg
      refine rf_tabc C ht0 52 (by decide +kernel) ?_
      refine rf_seg C [(.aload 0, 1), (.iload 1, 1)] (pc' := 54) (S' := ([(0, .ref 206), (1, .int a1), (2, .int a2)], [.int a1, .ref 206], rf_MM w m0)) (by decide +kernel) rfl trivial ?_
      obtain ⟨y1, m1, hc1, hg⟩ := rf_b_some hg
      refine rf_callv C rf_fit0 j_X14_lengthOf (ci := 14) (As := [.int a1]) (rest := []) mw_X14_lengthOf (c_X14_lengthOf hc1) (by decide) rfl (by decide) lk_14_676 rfl rfl (Nat.le_of_ble_eq_true rfl) (by decide +kernel) ?_
      show rf_V 3 (rf_sh w) K 0 0 57 ([(0, .ref 206), (1, .int a1), (2, .int a2)], [.int y1], rf_MM w m1)
      obtain rfl := Option.some.inj hg
      exact rf_iret C hE (by decide +kernel)
    · replace hg := (if_neg ht0).symm.trans hg
      by_cases ht1 : a2 = 1
      · replace hg := (if_pos ht1).symm.trans hg
        refine rf_tabc C ht1 58 (by decide +kernel) ?_
        obtain ⟨q2, hg⟩ := rf_g_some hg
        refine rf_seg C [(.aload 0, 1), (.invokeinterface 14 60, 3), (.iload 1, 1), (.iaload, 1)] (pc' := 64) (S' := ([(0, .ref 206), (1, .int a1), (2, .int a2)], [.int (m0.1 239 (Int32.toNatClampNeg a1))], rf_MM w m0)) (by decide +kernel) rfl (rf_in_of q2) ?_
        obtain rfl := Option.some.inj hg
        exact rf_iret C hE (by decide +kernel)
      · replace hg := (if_neg ht1).symm.trans hg
        by_cases ht2 : a2 = 2
        · replace hg := (if_pos ht2).symm.trans hg
          refine rf_tabc C ht2 65 (by decide +kernel) ?_
          refine rf_seg C [(.aload 0, 1), (.iload 1, 1), (.iconst 0, 1)] (pc' := 68) (S' := ([(0, .ref 206), (1, .int a1), (2, .int a2)], [.int 0, .int a1, .ref 206], rf_MM w m0)) (by decide +kernel) rfl trivial ?_
          obtain ⟨y3, m3, hc3, hg⟩ := rf_b_some hg
          refine rf_callv C rf_fit0 j_X14_spanOf (ci := 14) (As := [.int a1, .int 0]) (rest := []) mw_X14_spanOf (c_X14_spanOf hc3) (by decide) rfl (by decide) lk_14_685 rfl rfl (Nat.le_of_ble_eq_true rfl) (by decide +kernel) ?_
          show rf_V 3 (rf_sh w) K 0 0 71 ([(0, .ref 206), (1, .int a1), (2, .int a2)], [.int y3], rf_MM w m3)
          obtain rfl := Option.some.inj hg
          exact rf_iret C hE (by decide +kernel)
        · replace hg := (if_neg ht2).symm.trans hg
          by_cases ht3 : a2 = 3
          · replace hg := (if_pos ht3).symm.trans hg
            refine rf_tabc C ht3 72 (by decide +kernel) ?_
            refine rf_seg C [(.aload 0, 1), (.iload 1, 1), (.iconst 1, 1)] (pc' := 75) (S' := ([(0, .ref 206), (1, .int a1), (2, .int a2)], [.int 1, .int a1, .ref 206], rf_MM w m0)) (by decide +kernel) rfl trivial ?_
            obtain ⟨y4, m4, hc4, hg⟩ := rf_b_some hg
            refine rf_callv C rf_fit0 j_X14_spanOf (ci := 14) (As := [.int a1, .int 1]) (rest := []) mw_X14_spanOf (c_X14_spanOf hc4) (by decide) rfl (by decide) lk_14_685 rfl rfl (Nat.le_of_ble_eq_true rfl) (by decide +kernel) ?_
            show rf_V 3 (rf_sh w) K 0 0 78 ([(0, .ref 206), (1, .int a1), (2, .int a2)], [.int y4], rf_MM w m4)
            obtain rfl := Option.some.inj hg
            exact rf_iret C hE (by decide +kernel)
          · replace hg := (if_neg ht3).symm.trans hg
            by_cases ht4 : a2 = 4
            · replace hg := (if_pos ht4).symm.trans hg
              refine rf_tabc C ht4 79 (by decide +kernel) ?_
              refine rf_seg C [(.aload 0, 1), (.iload 1, 1)] (pc' := 81) (S' := ([(0, .ref 206), (1, .int a1), (2, .int a2)], [.int a1, .ref 206], rf_MM w m0)) (by decide +kernel) rfl trivial ?_
              obtain ⟨y5, m5, hc5, hg⟩ := rf_b_some hg
              refine rf_callv C rf_fit0 j_X14_twinOf (ci := 14) (As := [.int a1]) (rest := []) mw_X14_twinOf (c_X14_twinOf hc5) (by decide) rfl (by decide) lk_14_679 rfl rfl (Nat.le_of_ble_eq_true rfl) (by decide +kernel) ?_
              show rf_V 3 (rf_sh w) K 0 0 84 ([(0, .ref 206), (1, .int a1), (2, .int a2)], [.int y5], rf_MM w m5)
              refine rf_seg C [(.iconst (-1), 1)] (pc' := 85) (S' := ([(0, .ref 206), (1, .int a1), (2, .int a2)], [.int ((-1)), .int y5], rf_MM w m5)) (by decide +kernel) rfl trivial ?_
              refine rf_icmp_ne C 7 92 (by decide +kernel) (fun hc => ?_) (fun hc => ?_)
              · replace hg := (if_neg hc).symm.trans hg
                refine rf_seg C [(.aload 0, 1), (.iload 1, 1), (.aload 0, 1), (.iload 1, 1)] (pc' := 96) (S' := ([(0, .ref 206), (1, .int a1), (2, .int a2)], [.int a1, .ref 206, .int a1, .ref 206], rf_MM w m5)) (by decide +kernel) rfl trivial ?_
                obtain ⟨y6, m6, hc6, hg⟩ := rf_b_some hg
                refine rf_callv C rf_fit0 j_X14_twinOf (ci := 14) (As := [.int a1]) (rest := [.int a1, .ref 206]) mw_X14_twinOf (c_X14_twinOf hc6) (by decide) rfl (by decide) lk_14_679 rfl rfl (Nat.le_of_ble_eq_true rfl) (by decide +kernel) ?_
                show rf_V 3 (rf_sh w) K 0 0 99 ([(0, .ref 206), (1, .int a1), (2, .int a2)], [.int y6, .int a1, .ref 206], rf_MM w m6)
                obtain ⟨y7, m7, hc7, hg⟩ := rf_b_some hg
                refine rf_callv C rf_fit0 j_X14_isTorn (ci := 14) (As := [.int a1, .int y6]) (rest := []) mw_X14_isTorn (c_X14_isTorn hc7) (by decide) rfl (by decide) lk_14_682 rfl rfl (Nat.le_of_ble_eq_true rfl) (by decide +kernel) ?_
                show rf_V 3 (rf_sh w) K 0 0 102 ([(0, .ref 206), (1, .int a1), (2, .int a2)], [.int y7], rf_MM w m7)
                refine rf_if_eq C 7 109 (by decide +kernel) (fun hc => ?_) (fun hc => ?_)
                · replace hg := (if_pos hc).symm.trans hg
                  refine rf_seg C [(.iconst 1, 1)] (pc' := 110) (S' := ([(0, .ref 206), (1, .int a1), (2, .int a2)], [.int 1], rf_MM w m7)) (by decide +kernel) rfl trivial ?_
                  obtain rfl := Option.some.inj hg
                  exact rf_iret C hE (by decide +kernel)
                · replace hg := (if_neg hc).symm.trans hg
                  refine rf_seg C [(.iconst 2, 1)] (pc' := 106) (S' := ([(0, .ref 206), (1, .int a1), (2, .int a2)], [.int 2], rf_MM w m7)) (by decide +kernel) rfl trivial ?_
                  refine rf_goto C 4 110 (by decide +kernel) ?_
                  obtain rfl := Option.some.inj hg
                  exact rf_iret C hE (by decide +kernel)
              · replace hg := (if_pos hc).symm.trans hg
                refine rf_seg C [(.iconst 0, 1)] (pc' := 89) (S' := ([(0, .ref 206), (1, .int a1), (2, .int a2)], [.int 0], rf_MM w m5)) (by decide +kernel) rfl trivial ?_
                refine rf_goto C 21 110 (by decide +kernel) ?_
                obtain rfl := Option.some.inj hg
                exact rf_iret C hE (by decide +kernel)
            · replace hg := (if_neg ht4).symm.trans hg
              refine rf_tabd C 0 4 111 (by decide +kernel) (by have t0 : (a2).toInt ≠ 0 := rf_ti ht0; have t1 : (a2).toInt ≠ 1 := rf_ti ht1; have t2 : (a2).toInt ≠ 2 := rf_ti ht2; have t3 : (a2).toInt ≠ 3 := rf_ti ht3; have t4 : (a2).toInt ≠ 4 := rf_ti ht4; omega) ?_
              refine rf_seg C [(.iconst (-1), 1)] (pc' := 112) (S' := ([(0, .ref 206), (1, .int a1), (2, .int a2)], [.int ((-1))], rf_MM w m0)) (by decide +kernel) rfl trivial ?_
              obtain rfl := Option.some.inj hg
              exact rf_iret C hE (by decide +kernel)
  · replace hg := (if_pos hc).symm.trans hg
    refine rf_seg C [(.iconst (-1), 1)] (pc' := 14) (S' := ([(0, .ref 206), (1, .int a1), (2, .int a2)], [.int ((-1))], rf_MM w m0)) (by decide +kernel) rfl trivial ?_
    obtain rfl := Option.some.inj hg
    exact rf_iret C hE (by decide +kernel)
