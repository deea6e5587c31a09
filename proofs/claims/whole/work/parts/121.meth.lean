/-! methods as functions, and their contracts (written by wip/tool/gen.py) -/
-- X4_extend
abbrev j_X4_extend : rf_J := (4, yX4_extend, cX4_extend, 16, none)
theorem mw_X4_extend : rf_mv j_X4_extend (rf_R 4) 5 := ⟨⟨rf_mem 78 (by decide +kernel), rf_mem 78 (by decide +kernel), rf_mem 1 (by decide +kernel), rf_mem 78 (by decide +kernel)⟩, by decide +kernel, by decide⟩
def g_X4_extend_260 (w : rf_w) (rc_X4_extend : rf_m → Int32 → Int32 → Int32 → Int64 → Int64 → Option (rf_m)) (rec76 : Int32 → Int32 → Int32 → Int64 → Int64 → Int32 → rf_m → Option (rf_m)) (a1 : Int32) (a2 : Int32) (a3 : Int32) (a4 : Int64) (a6 : Int64) (a8 : Int32) (m : rf_m) : Option (rf_m) := rec76 a1 a2 a3 a4 a6 (a8 + 1) m
def g_X4_extend_254 (w : rf_w) (rc_X4_extend : rf_m → Int32 → Int32 → Int32 → Int64 → Int64 → Option (rf_m)) (rec76 : Int32 → Int32 → Int32 → Int64 → Int64 → Int32 → rf_m → Option (rf_m)) (rec110 : Int32 → Int32 → Int32 → Int64 → Int64 → Int32 → Int32 → Int32 → rf_m → Option (rf_m)) (a1 : Int32) (a2 : Int32) (a3 : Int32) (a4 : Int64) (a6 : Int64) (a8 : Int32) (a9 : Int32) (a10 : Int32) (m : rf_m) : Option (rf_m) := rec110 a1 a2 a3 a4 a6 a8 a9 (a10 + 1) m
def g_X4_extend_201 (w : rf_w) (rc_X4_extend : rf_m → Int32 → Int32 → Int32 → Int64 → Int64 → Option (rf_m)) (rec76 : Int32 → Int32 → Int32 → Int64 → Int64 → Int32 → rf_m → Option (rf_m)) (rec110 : Int32 → Int32 → Int32 → Int64 → Int64 → Int32 → Int32 → Int32 → rf_m → Option (rf_m)) (a1 : Int32) (a2 : Int32) (a3 : Int32) (a4 : Int64) (a6 : Int64) (a8 : Int32) (a9 : Int32) (a10 : Int32) (a11 : Int32) (a12 : Int64) (a14 : Int64) (m : rf_m) : Option (rf_m) := rf_g (rf_in a8 8) (rf_g (rf_in a1 12) (rf_g (rf_in a11 24) (rf_g (rf_in (6 + a1) 12) (rf_g (rf_in a11 24) (rf_bv (rc_X4_extend (rf_i (rf_i m 181 (Int32.toNatClampNeg a1) (m.1 177 (Int32.toNatClampNeg a8))) 181 (Int32.toNatClampNeg (6 + a1)) ((rf_i m 181 (Int32.toNatClampNeg a1) (m.1 177 (Int32.toNatClampNeg a8))).1 178 (Int32.toNatClampNeg a11))) (a1 + 1) (a2 ||| ((1 : Int32) <<< (a8 &&& 31))) ((rf_i (rf_i m 181 (Int32.toNatClampNeg a1) (m.1 177 (Int32.toNatClampNeg a8))) 181 (Int32.toNatClampNeg (6 + a1)) ((rf_i m 181 (Int32.toNatClampNeg a1) (m.1 177 (Int32.toNatClampNeg a8))).1 178 (Int32.toNatClampNeg a11))).1 178 (Int32.toNatClampNeg a11)) a12 a14) fun m5 => g_X4_extend_254 w rc_X4_extend rec76 rec110 a1 a2 a3 a4 a6 a8 a9 a10 m5)))))
def g_X4_extend_110_b (w : rf_w) (rc_X4_extend : rf_m → Int32 → Int32 → Int32 → Int64 → Int64 → Option (rf_m)) (rec76 : Int32 → Int32 → Int32 → Int64 → Int64 → Int32 → rf_m → Option (rf_m)) (rec110 : Int32 → Int32 → Int32 → Int64 → Int64 → Int32 → Int32 → Int32 → rf_m → Option (rf_m)) (a1 : Int32) (a2 : Int32) (a3 : Int32) (a4 : Int64) (a6 : Int64) (a8 : Int32) (a9 : Int32) (a10 : Int32) (m : rf_m) : Option (rf_m) := (if 2 < a10 then g_X4_extend_260 w rc_X4_extend rec76 a1 a2 a3 a4 a6 a8 m else (if a9 = ((-1)) then g_X4_extend_260 w rc_X4_extend rec76 a1 a2 a3 a4 a6 a8 m else rf_vi ((a8 * 3) + ((a9 + a10) - (a9 + a10) / 3 * 3)) fun x0 => rf_b (g_X4_carriedLeast w m a4 x0 ((a8 * 3) + a9)) fun y1 m1 => rf_b (g_X4_carriedMost w m1 a6 x0 ((a8 * 3) + a9)) fun y2 m2 => (if (0 : Int32) < (lg_cmp y2 1000000000) then g_X4_extend_254 w rc_X4_extend rec76 rec110 a1 a2 a3 a4 a6 a8 a9 a10 m2 else (if (a1 + 1) < 6 then g_X4_extend_201 w rc_X4_extend rec76 rec110 a1 a2 a3 a4 a6 a8 a9 a10 x0 y1 y2 m2 else rf_g (rf_in x0 24) ((if (m2.1 178 (Int32.toNatClampNeg x0)) = (m2.1 175 18) then g_X4_extend_201 w rc_X4_extend rec76 rec110 a1 a2 a3 a4 a6 a8 a9 a10 x0 y1 y2 m2 else g_X4_extend_254 w rc_X4_extend rec76 rec110 a1 a2 a3 a4 a6 a8 a9 a10 m2))))))
def g_X4_extend_110 (w : rf_w) (rc_X4_extend : rf_m → Int32 → Int32 → Int32 → Int64 → Int64 → Option (rf_m)) (rec76 : Int32 → Int32 → Int32 → Int64 → Int64 → Int32 → rf_m → Option (rf_m)) : Nat → Int32 → Int32 → Int32 → Int64 → Int64 → Int32 → Int32 → Int32 → rf_m → Option (rf_m)
  | 0, _, _, _, _, _, _, _, _, _ => none
  | n + 1, a1, a2, a3, a4, a6, a8, a9, a10, m => g_X4_extend_110_b w rc_X4_extend rec76 (g_X4_extend_110 w rc_X4_extend rec76 n) a1 a2 a3 a4 a6 a8 a9 a10 m
def g_X4_extend_105 (w : rf_w) (rc_X4_extend : rf_m → Int32 → Int32 → Int32 → Int64 → Int64 → Option (rf_m)) (rec76 : Int32 → Int32 → Int32 → Int64 → Int64 → Int32 → rf_m → Option (rf_m)) (a1 : Int32) (a2 : Int32) (a3 : Int32) (a4 : Int64) (a6 : Int64) (a8 : Int32) (s0 : Int32) (m : rf_m) : Option (rf_m) := g_X4_extend_110 w rc_X4_extend rec76 rf_fuel a1 a2 a3 a4 a6 a8 s0 1 m
def g_X4_extend_76_b (w : rf_w) (rc_X4_extend : rf_m → Int32 → Int32 → Int32 → Int64 → Int64 → Option (rf_m)) (rec76 : Int32 → Int32 → Int32 → Int64 → Int64 → Int32 → rf_m → Option (rf_m)) (a1 : Int32) (a2 : Int32) (a3 : Int32) (a4 : Int64) (a6 : Int64) (a8 : Int32) (m : rf_m) : Option (rf_m) := (if (m.1 175 8) ≤ a8 then some m else (if (((Int32.toUInt32 a2 >>> (Int32.toUInt32 a8 &&& Int32.toUInt32 31)).toInt32) &&& 1) = 0 then rf_b (g_X4_placeOf w m a3 a8) fun y0 m0 => g_X4_extend_105 w rc_X4_extend rec76 a1 a2 a3 a4 a6 a8 y0 m0 else g_X4_extend_105 w rc_X4_extend rec76 a1 a2 a3 a4 a6 a8 ((-1)) m))
def g_X4_extend_76 (w : rf_w) (rc_X4_extend : rf_m → Int32 → Int32 → Int32 → Int64 → Int64 → Option (rf_m)) : Nat → Int32 → Int32 → Int32 → Int64 → Int64 → Int32 → rf_m → Option (rf_m)
  | 0, _, _, _, _, _, _, _ => none
  | n + 1, a1, a2, a3, a4, a6, a8, m => g_X4_extend_76_b w rc_X4_extend (g_X4_extend_76 w rc_X4_extend n) a1 a2 a3 a4 a6 a8 m
def g_X4_extend_53 (w : rf_w) (rc_X4_extend : rf_m → Int32 → Int32 → Int32 → Int64 → Int64 → Option (rf_m)) (a1 : Int32) (a2 : Int32) (a3 : Int32) (a4 : Int64) (a6 : Int64) (m : rf_m) : Option (rf_m) := (if 6 ≤ a1 then some m else rf_b (g_X4_isHopeless w m a1 (a6 - a4)) fun y0 m0 => (if y0 = 0 then g_X4_extend_76 w rc_X4_extend rf_fuel a1 a2 a3 a4 a6 0 m0 else some m0))
def g_X4_extend_f (w : rf_w) (rc_X4_extend : rf_m → Int32 → Int32 → Int32 → Int64 → Int64 → Option (rf_m)) (m : rf_m) (a1 : Int32) (a2 : Int32) (a3 : Int32) (a4 : Int64) (a6 : Int64) : Option (rf_m) := (if a3 = (m.1 175 18) then rf_b (g_X4_isBetter w m a1 (a6 - a4)) fun y0 m0 => (if y0 = 0 then g_X4_extend_53 w rc_X4_extend a1 a2 a3 a4 a6 m0 else rf_g (rf_cg 0 0 12 12 12) (g_X4_extend_53 w rc_X4_extend a1 a2 a3 a4 a6 (rf_l (rf_l (rf_i (rf_ci m0 181 182 0 0 12) 175 15 a1) 175 16 a4) 175 17 a6))) else g_X4_extend_53 w rc_X4_extend a1 a2 a3 a4 a6 m)
def g_X4_extend (w : rf_w) : Nat → rf_m → Int32 → Int32 → Int32 → Int64 → Int64 → Option (rf_m)
  | 0, _, _, _, _, _, _ => none
  | n + 1, m, a1, a2, a3, a4, a6 => g_X4_extend_f w (g_X4_extend w n) m a1 a2 a3 a4 a6
theorem s_X4_extend_260 {w : rf_w} {K : rf_K} {e : Nat} {rc_X4_extend : rf_m → Int32 → Int32 → Int32 → Int64 → Int64 → Option (rf_m)} {r : rf_m} (C : rf_Ctx 4 cX4_extend 16 (e + 3) (rf_sh w) K) (hE : rf_End none K (rf_sh w) 0 0 none (rf_MM w r)) (hrc_X4_extend : ∀ (m : rf_m) (a1 : Int32) (a2 : Int32) (a3 : Int32) (a4 : Int64) (a6 : Int64) (r : rf_m), rc_X4_extend m a1 a2 a3 a4 a6 = some r → rf_Con j_X4_extend e (rf_sh w) [.ref 175, .int a1, .int a2, .int a3, .long a4, .long a6] (rf_MM w m) none (rf_MM w r)) {rec76 : Int32 → Int32 → Int32 → Int64 → Int64 → Int32 → rf_m → Option (rf_m)} (hr76 : ∀ (a1 : Int32) (a2 : Int32) (a3 : Int32) (a4 : Int64) (a6 : Int64) (a8 : Int32) (m : rf_m), rec76 a1 a2 a3 a4 a6 a8 m = some r → rf_V 16 (rf_sh w) K 0 0 76 ([(0, .ref 175), (1, .int a1), (2, .int a2), (3, .int a3), (4, .long a4), (6, .long a6), (8, .int a8)], [], rf_MM w m)) (a1 : Int32) (a2 : Int32) (a3 : Int32) (a4 : Int64) (a6 : Int64) (a8 : Int32) (m : rf_m) (hg : g_X4_extend_260 w rc_X4_extend rec76 a1 a2 a3 a4 a6 a8 m = some r) : rf_V 16 (rf_sh w) K 0 0 260 ([(0, .ref 175), (1, .int a1), (2, .int a2), (3, .int a3), (4, .long a4), (6, .long a6), (8, .int a8)], [], rf_MM w m) := by
  unfold g_X4_extend_260 at hg
  refine rf_seg C [(.iinc 8 1, 3)] (pc' := 263) (S' := ([(8, .int (a8 + 1)), (0, .ref 175), (1, .int a1), (2, .int a2), (3, .int a3), (4, .long a4), (6, .long a6)], [], rf_MM w m)) (by decide +kernel) rfl trivial ?_
  refine rf_goto C (-187) 76 (by decide +kernel) ?_
  refine rf_few [1, 2, 3, 4, 5, 6, 0] rfl ?_
  exact hr76 a1 a2 a3 a4 a6 (a8 + 1) m hg
theorem s_X4_extend_254 {w : rf_w} {K : rf_K} {e : Nat} {rc_X4_extend : rf_m → Int32 → Int32 → Int32 → Int64 → Int64 → Option (rf_m)} {r : rf_m} (C : rf_Ctx 4 cX4_extend 16 (e + 3) (rf_sh w) K) (hE : rf_End none K (rf_sh w) 0 0 none (rf_MM w r)) (hrc_X4_extend : ∀ (m : rf_m) (a1 : Int32) (a2 : Int32) (a3 : Int32) (a4 : Int64) (a6 : Int64) (r : rf_m), rc_X4_extend m a1 a2 a3 a4 a6 = some r → rf_Con j_X4_extend e (rf_sh w) [.ref 175, .int a1, .int a2, .int a3, .long a4, .long a6] (rf_MM w m) none (rf_MM w r)) {rec76 : Int32 → Int32 → Int32 → Int64 → Int64 → Int32 → rf_m → Option (rf_m)} {rec110 : Int32 → Int32 → Int32 → Int64 → Int64 → Int32 → Int32 → Int32 → rf_m → Option (rf_m)} (hr76 : ∀ (a1 : Int32) (a2 : Int32) (a3 : Int32) (a4 : Int64) (a6 : Int64) (a8 : Int32) (m : rf_m), rec76 a1 a2 a3 a4 a6 a8 m = some r → rf_V 16 (rf_sh w) K 0 0 76 ([(0, .ref 175), (1, .int a1), (2, .int a2), (3, .int a3), (4, .long a4), (6, .long a6), (8, .int a8)], [], rf_MM w m)) (hr110 : ∀ (a1 : Int32) (a2 : Int32) (a3 : Int32) (a4 : Int64) (a6 : Int64) (a8 : Int32) (a9 : Int32) (a10 : Int32) (m : rf_m), rec110 a1 a2 a3 a4 a6 a8 a9 a10 m = some r → rf_V 16 (rf_sh w) K 0 0 110 ([(0, .ref 175), (1, .int a1), (2, .int a2), (3, .int a3), (4, .long a4), (6, .long a6), (8, .int a8), (9, .int a9), (10, .int a10)], [], rf_MM w m)) (a1 : Int32) (a2 : Int32) (a3 : Int32) (a4 : Int64) (a6 : Int64) (a8 : Int32) (a9 : Int32) (a10 : Int32) (m : rf_m) (hg : g_X4_extend_254 w rc_X4_extend rec76 rec110 a1 a2 a3 a4 a6 a8 a9 a10 m = some r) : rf_V 16 (rf_sh w) K 0 0 254 ([(0, .ref 175), (1, .int a1), (2, .int a2), (3, .int a3), (4, .long a4), (6, .long a6), (8, .int a8), (9, .int a9), (10, .int a10)], [], rf_MM w m) := by
  unfold g_X4_extend_254 at hg
  refine rf_seg C [(.iinc 10 1, 3)] (pc' := 257) (S' := ([(10, .int (a10 + 1)), (0, .ref 175), (1, .int a1), (2, .int a2), (3, .int a3), (4, .long a4), (6, .long a6), (8, .int a8), (9, .int a9)], [], rf_MM w m)) (by decide +kernel) rfl trivial ?_
  refine rf_goto C (-147) 110 (by decide +kernel) ?_
  refine rf_few [1, 2, 3, 4, 5, 6, 7, 8, 0] rfl ?_
  exact hr110 a1 a2 a3 a4 a6 a8 a9 (a10 + 1) m hg
theorem s_X4_extend_201 {w : rf_w} {K : rf_K} {e : Nat} {rc_X4_extend : rf_m → Int32 → Int32 → Int32 → Int64 → Int64 → Option (rf_m)} {r : rf_m} (C : rf_Ctx 4 cX4_extend 16 (e + 3) (rf_sh w) K) (hE : rf_End none K (rf_sh w) 0 0 none (rf_MM w r)) (hrc_X4_extend : ∀ (m : rf_m) (a1 : Int32) (a2 : Int32) (a3 : Int32) (a4 : Int64) (a6 : Int64) (r : rf_m), rc_X4_extend m a1 a2 a3 a4 a6 = some r → rf_Con j_X4_extend e (rf_sh w) [.ref 175, .int a1, .int a2, .int a3, .long a4, .long a6] (rf_MM w m) none (rf_MM w r)) {rec76 : Int32 → Int32 → Int32 → Int64 → Int64 → Int32 → rf_m → Option (rf_m)} {rec110 : Int32 → Int32 → Int32 → Int64 → Int64 → Int32 → Int32 → Int32 → rf_m → Option (rf_m)} (hr76 : ∀ (a1 : Int32) (a2 : Int32) (a3 : Int32) (a4 : Int64) (a6 : Int64) (a8 : Int32) (m : rf_m), rec76 a1 a2 a3 a4 a6 a8 m = some r → rf_V 16 (rf_sh w) K 0 0 76 ([(0, .ref 175), (1, .int a1), (2, .int a2), (3, .int a3), (4, .long a4), (6, .long a6), (8, .int a8)], [], rf_MM w m)) (hr110 : ∀ (a1 : Int32) (a2 : Int32) (a3 : Int32) (a4 : Int64) (a6 : Int64) (a8 : Int32) (a9 : Int32) (a10 : Int32) (m : rf_m), rec110 a1 a2 a3 a4 a6 a8 a9 a10 m = some r → rf_V 16 (rf_sh w) K 0 0 110 ([(0, .ref 175), (1, .int a1), (2, .int a2), (3, .int a3), (4, .long a4), (6, .long a6), (8, .int a8), (9, .int a9), (10, .int a10)], [], rf_MM w m)) (a1 : Int32) (a2 : Int32) (a3 : Int32) (a4 : Int64) (a6 : Int64) (a8 : Int32) (a9 : Int32) (a10 : Int32) (a11 : Int32) (a12 : Int64) (a14 : Int64) (m : rf_m) (hg : g_X4_extend_201 w rc_X4_extend rec76 rec110 a1 a2 a3 a4 a6 a8 a9 a10 a11 a12 a14 m = some r) : rf_V 16 (rf_sh w) K 0 0 201 ([(0, .ref 175), (1, .int a1), (2, .int a2), (3, .int a3), (4, .long a4), (6, .long a6), (8, .int a8), (9, .int a9), (10, .int a10), (11, .int a11), (12, .long a12), (14, .long a14)], [], rf_MM w m) := by
  unfold g_X4_extend_201 at hg
  obtain ⟨q0, hg⟩ := rf_g_some hg
  obtain ⟨q1, hg⟩ := rf_g_some hg
  obtain ⟨q2, hg⟩ := rf_g_some hg
  obtain ⟨q3, hg⟩ := rf_g_some hg
  obtain ⟨q4, hg⟩ := rf_g_some hg
  refine rf_seg C [(.aload 0, 1), (.invokeinterface 4 13, 3), (.iload 1, 1), (.aload 0, 1), (.invokeinterface 4 7, 3), (.iload 8, 2), (.iaload, 1), (.iastore, 1), (.aload 0, 1), (.invokeinterface 4 13, 3), (.iconst 6, 2), (.iload 1, 1), (.iadd, 1), (.aload 0, 1), (.invokeinterface 4 9, 3), (.iload 11, 2), (.iaload, 1), (.iastore, 1), (.aload 0, 1), (.iload 1, 1), (.iconst 1, 1), (.iadd, 1), (.iload 2, 1), (.iconst 1, 1), (.iload 8, 2), (.ishl, 1), (.ior, 1), (.aload 0, 1), (.invokeinterface 4 9, 3), (.iload 11, 2), (.iaload, 1), (.lload 12, 2), (.lload 14, 2)] (pc' := 251) (S' := ([(0, .ref 175), (1, .int a1), (2, .int a2), (3, .int a3), (4, .long a4), (6, .long a6), (8, .int a8), (9, .int a9), (10, .int a10), (11, .int a11), (12, .long a12), (14, .long a14)], [.long a14, .long a12, .int ((rf_i (rf_i m 181 (Int32.toNatClampNeg a1) (m.1 177 (Int32.toNatClampNeg a8))) 181 (Int32.toNatClampNeg (6 + a1)) ((rf_i m 181 (Int32.toNatClampNeg a1) (m.1 177 (Int32.toNatClampNeg a8))).1 178 (Int32.toNatClampNeg a11))).1 178 (Int32.toNatClampNeg a11)), .int (a2 ||| ((1 : Int32) <<< (a8 &&& 31))), .int (a1 + 1), .ref 175], rf_MM w (rf_i (rf_i m 181 (Int32.toNatClampNeg a1) (m.1 177 (Int32.toNatClampNeg a8))) 181 (Int32.toNatClampNeg (6 + a1)) ((rf_i m 181 (Int32.toNatClampNeg a1) (m.1 177 (Int32.toNatClampNeg a8))).1 178 (Int32.toNatClampNeg a11))))) (by decide +kernel) rfl (by exact ⟨(rf_in_of q0), (rf_in_of q1), (rf_in_of q2), (rf_in_of q3), (rf_in_of q4)⟩) ?_
  obtain ⟨m5, hc5, hg⟩ := rf_bv_some hg
  refine rf_callv C rf_fit0 j_X4_extend (ci := 4) (As := [.int (a1 + 1), .int (a2 ||| ((1 : Int32) <<< (a8 &&& 31))), .int ((rf_i (rf_i m 181 (Int32.toNatClampNeg a1) (m.1 177 (Int32.toNatClampNeg a8))) 181 (Int32.toNatClampNeg (6 + a1)) ((rf_i m 181 (Int32.toNatClampNeg a1) (m.1 177 (Int32.toNatClampNeg a8))).1 178 (Int32.toNatClampNeg a11))).1 178 (Int32.toNatClampNeg a11)), .long a12, .long a14]) (rest := []) mw_X4_extend (hrc_X4_extend _ _ _ _ _ _ _ hc5) (by omega) rfl (by decide) lk_4_80 rfl rfl (Nat.le_of_ble_eq_true rfl) (by decide +kernel) ?_
  show rf_V 16 (rf_sh w) K 0 0 254 ([(0, .ref 175), (1, .int a1), (2, .int a2), (3, .int a3), (4, .long a4), (6, .long a6), (8, .int a8), (9, .int a9), (10, .int a10), (11, .int a11), (12, .long a12), (14, .long a14)], [], rf_MM w m5)
  refine rf_few [0, 1, 2, 3, 4, 5, 6, 7, 8] rfl ?_
  exact s_X4_extend_254 C hE hrc_X4_extend hr76 hr110 a1 a2 a3 a4 a6 a8 a9 a10 m5 hg
theorem s_X4_extend_110_b {w : rf_w} {K : rf_K} {e : Nat} {rc_X4_extend : rf_m → Int32 → Int32 → Int32 → Int64 → Int64 → Option (rf_m)} {r : rf_m} (C : rf_Ctx 4 cX4_extend 16 (e + 3) (rf_sh w) K) (hE : rf_End none K (rf_sh w) 0 0 none (rf_MM w r)) (hrc_X4_extend : ∀ (m : rf_m) (a1 : Int32) (a2 : Int32) (a3 : Int32) (a4 : Int64) (a6 : Int64) (r : rf_m), rc_X4_extend m a1 a2 a3 a4 a6 = some r → rf_Con j_X4_extend e (rf_sh w) [.ref 175, .int a1, .int a2, .int a3, .long a4, .long a6] (rf_MM w m) none (rf_MM w r)) {rec76 : Int32 → Int32 → Int32 → Int64 → Int64 → Int32 → rf_m → Option (rf_m)} {rec110 : Int32 → Int32 → Int32 → Int64 → Int64 → Int32 → Int32 → Int32 → rf_m → Option (rf_m)} (hr76 : ∀ (a1 : Int32) (a2 : Int32) (a3 : Int32) (a4 : Int64) (a6 : Int64) (a8 : Int32) (m : rf_m), rec76 a1 a2 a3 a4 a6 a8 m = some r → rf_V 16 (rf_sh w) K 0 0 76 ([(0, .ref 175), (1, .int a1), (2, .int a2), (3, .int a3), (4, .long a4), (6, .long a6), (8, .int a8)], [], rf_MM w m)) (hr110 : ∀ (a1 : Int32) (a2 : Int32) (a3 : Int32) (a4 : Int64) (a6 : Int64) (a8 : Int32) (a9 : Int32) (a10 : Int32) (m : rf_m), rec110 a1 a2 a3 a4 a6 a8 a9 a10 m = some r → rf_V 16 (rf_sh w) K 0 0 110 ([(0, .ref 175), (1, .int a1), (2, .int a2), (3, .int a3), (4, .long a4), (6, .long a6), (8, .int a8), (9, .int a9), (10, .int a10)], [], rf_MM w m)) (a1 : Int32) (a2 : Int32) (a3 : Int32) (a4 : Int64) (a6 : Int64) (a8 : Int32) (a9 : Int32) (a10 : Int32) (m : rf_m) (hg : g_X4_extend_110_b w rc_X4_extend rec76 rec110 a1 a2 a3 a4 a6 a8 a9 a10 m = some r) : rf_V 16 (rf_sh w) K 0 0 110 ([(0, .ref 175), (1, .int a1), (2, .int a2), (3, .int a3), (4, .long a4), (6, .long a6), (8, .int a8), (9, .int a9), (10, .int a10)], [], rf_MM w m) := by
  unfold g_X4_extend_110_b at hg
  refine rf_seg C [(.iload 10, 2), (.iconst 2, 1)] (pc' := 113) (S' := ([(0, .ref 175), (1, .int a1), (2, .int a2), (3, .int a3), (4, .long a4), (6, .long a6), (8, .int a8), (9, .int a9), (10, .int a10)], [.int 2, .int a10], rf_MM w m)) (by decide +kernel) rfl trivial ?_
  refine rf_icmp_gt C 147 260 (by decide +kernel) (fun hc => ?_) (fun hc => ?_)
  · replace hg := (if_pos hc).symm.trans hg
    refine rf_few [0, 1, 2, 3, 4, 5, 6] rfl ?_
    exact s_X4_extend_260 C hE hrc_X4_extend hr76 a1 a2 a3 a4 a6 a8 m hg
  · replace hg := (if_neg hc).symm.trans hg
    refine rf_seg C [(.iload 9, 2), (.iconst (-1), 1)] (pc' := 119) (S' := ([(0, .ref 175), (1, .int a1), (2, .int a2), (3, .int a3), (4, .long a4), (6, .long a6), (8, .int a8), (9, .int a9), (10, .int a10)], [.int ((-1)), .int a9], rf_MM w m)) (by decide +kernel) rfl trivial ?_
    refine rf_icmp_eq C 141 260 (by decide +kernel) (fun hc => ?_) (fun hc => ?_)
    · replace hg := (if_pos hc).symm.trans hg
      refine rf_few [0, 1, 2, 3, 4, 5, 6] rfl ?_
      exact s_X4_extend_260 C hE hrc_X4_extend hr76 a1 a2 a3 a4 a6 a8 m hg
    · replace hg := (if_neg hc).symm.trans hg
      refine rf_seg C [(.iload 8, 2), (.iconst 3, 1), (.imul, 1), (.iload 9, 2), (.iload 10, 2), (.iadd, 1), (.iconst 3, 1), (.irem, 1), (.iadd, 1)] (pc' := 134) (S' := ([(0, .ref 175), (1, .int a1), (2, .int a2), (3, .int a3), (4, .long a4), (6, .long a6), (8, .int a8), (9, .int a9), (10, .int a10)], [.int ((a8 * 3) + ((a9 + a10) - (a9 + a10) / 3 * 3))], rf_MM w m)) (by decide +kernel) rfl (rf_nz_of (by decide)) ?_
      obtain ⟨x0, hx0, hg⟩ := rf_vi_some hg
      refine rf_vi_top hx0 ?_
      refine rf_seg C [(.istore 11, 2), (.aload 0, 1), (.lload 4, 2), (.iload 11, 2), (.iload 8, 2), (.iconst 3, 1), (.imul, 1), (.iload 9, 2), (.iadd, 1)] (pc' := 148) (S' := ([(11, .int x0), (0, .ref 175), (1, .int a1), (2, .int a2), (3, .int a3), (4, .long a4), (6, .long a6), (8, .int a8), (9, .int a9), (10, .int a10)], [.int ((a8 * 3) + a9), .int x0, .long a4, .ref 175], rf_MM w m)) (by decide +kernel) rfl trivial ?_
      obtain ⟨y1, m1, hc1, hg⟩ := rf_b_some hg
      refine rf_callv C rf_fit0 j_X4_carriedLeast (ci := 4) (As := [.long a4, .int x0, .int ((a8 * 3) + a9)]) (rest := []) mw_X4_carriedLeast (c_X4_carriedLeast hc1) (by omega) rfl (by decide) lk_4_163 rfl rfl (Nat.le_of_ble_eq_true rfl) (by decide +kernel) ?_
      show rf_V 16 (rf_sh w) K 0 0 151 ([(11, .int x0), (0, .ref 175), (1, .int a1), (2, .int a2), (3, .int a3), (4, .long a4), (6, .long a6), (8, .int a8), (9, .int a9), (10, .int a10)], [.long y1], rf_MM w m1)
      refine rf_seg C [(.lstore 12, 2), (.aload 0, 1), (.lload 6, 2), (.iload 11, 2), (.iload 8, 2), (.iconst 3, 1), (.imul, 1), (.iload 9, 2), (.iadd, 1)] (pc' := 165) (S' := ([(12, .long y1), (11, .int x0), (0, .ref 175), (1, .int a1), (2, .int a2), (3, .int a3), (4, .long a4), (6, .long a6), (8, .int a8), (9, .int a9), (10, .int a10)], [.int ((a8 * 3) + a9), .int x0, .long a6, .ref 175], rf_MM w m1)) (by decide +kernel) rfl trivial ?_
      obtain ⟨y2, m2, hc2, hg⟩ := rf_b_some hg
      refine rf_callv C rf_fit0 j_X4_carriedMost (ci := 4) (As := [.long a6, .int x0, .int ((a8 * 3) + a9)]) (rest := []) mw_X4_carriedMost (c_X4_carriedMost hc2) (by omega) rfl (by decide) lk_4_167 rfl rfl (Nat.le_of_ble_eq_true rfl) (by decide +kernel) ?_
      show rf_V 16 (rf_sh w) K 0 0 168 ([(12, .long y1), (11, .int x0), (0, .ref 175), (1, .int a1), (2, .int a2), (3, .int a3), (4, .long a4), (6, .long a6), (8, .int a8), (9, .int a9), (10, .int a10)], [.long y2], rf_MM w m2)
      refine rf_seg C [(.lstore 14, 2), (.lload 14, 2), (.goto_w 1000000000, 3), (.lcmp, 1)] (pc' := 176) (S' := ([(14, .long y2), (12, .long y1), (11, .int x0), (0, .ref 175), (1, .int a1), (2, .int a2), (3, .int a3), (4, .long a4), (6, .long a6), (8, .int a8), (9, .int a9), (10, .int a10)], [.int (lg_cmp y2 1000000000)], rf_MM w m2)) (by decide +kernel) rfl trivial ?_
      refine rf_if_gt C 78 254 (by decide +kernel) (fun hc => ?_) (fun hc => ?_)
      · replace hg := (if_pos hc).symm.trans hg
        refine rf_few [3, 4, 5, 6, 7, 8, 9, 10, 11] rfl ?_
        exact s_X4_extend_254 C hE hrc_X4_extend hr76 hr110 a1 a2 a3 a4 a6 a8 a9 a10 m2 hg
      · replace hg := (if_neg hc).symm.trans hg
        refine rf_seg C [(.iload 1, 1), (.iconst 1, 1), (.iadd, 1), (.iconst 6, 2)] (pc' := 184) (S' := ([(14, .long y2), (12, .long y1), (11, .int x0), (0, .ref 175), (1, .int a1), (2, .int a2), (3, .int a3), (4, .long a4), (6, .long a6), (8, .int a8), (9, .int a9), (10, .int a10)], [.int 6, .int (a1 + 1)], rf_MM w m2)) (by decide +kernel) rfl trivial ?_
        refine rf_icmp_lt C 17 201 (by decide +kernel) (fun hc => ?_) (fun hc => ?_)
        · replace hg := (if_pos hc).symm.trans hg
          refine rf_few [3, 4, 5, 6, 7, 8, 9, 10, 11, 2, 1, 0] rfl ?_
          exact s_X4_extend_201 C hE hrc_X4_extend hr76 hr110 a1 a2 a3 a4 a6 a8 a9 a10 x0 y1 y2 m2 hg
        · replace hg := (if_neg hc).symm.trans hg
          obtain ⟨q3, hg⟩ := rf_g_some hg
          refine rf_seg C [(.aload 0, 1), (.invokeinterface 4 9, 3), (.iload 11, 2), (.iaload, 1), (.aload 0, 1), (.invokeinterface 4 18, 3)] (pc' := 198) (S' := ([(14, .long y2), (12, .long y1), (11, .int x0), (0, .ref 175), (1, .int a1), (2, .int a2), (3, .int a3), (4, .long a4), (6, .long a6), (8, .int a8), (9, .int a9), (10, .int a10)], [.int (m2.1 175 18), .int (m2.1 178 (Int32.toNatClampNeg x0))], rf_MM w m2)) (by decide +kernel) rfl (rf_in_of q3) ?_
          refine rf_icmp_ne C 56 254 (by decide +kernel) (fun hc => ?_) (fun hc => ?_)
          · replace hg := (if_neg hc).symm.trans hg
            refine rf_few [3, 4, 5, 6, 7, 8, 9, 10, 11] rfl ?_
            exact s_X4_extend_254 C hE hrc_X4_extend hr76 hr110 a1 a2 a3 a4 a6 a8 a9 a10 m2 hg
          · replace hg := (if_pos hc).symm.trans hg
            refine rf_few [3, 4, 5, 6, 7, 8, 9, 10, 11, 2, 1, 0] rfl ?_
            exact s_X4_extend_201 C hE hrc_X4_extend hr76 hr110 a1 a2 a3 a4 a6 a8 a9 a10 x0 y1 y2 m2 hg
theorem s_X4_extend_110 {w : rf_w} {K : rf_K} {e : Nat} {rc_X4_extend : rf_m → Int32 → Int32 → Int32 → Int64 → Int64 → Option (rf_m)} {r : rf_m} (C : rf_Ctx 4 cX4_extend 16 (e + 3) (rf_sh w) K) (hE : rf_End none K (rf_sh w) 0 0 none (rf_MM w r)) (hrc_X4_extend : ∀ (m : rf_m) (a1 : Int32) (a2 : Int32) (a3 : Int32) (a4 : Int64) (a6 : Int64) (r : rf_m), rc_X4_extend m a1 a2 a3 a4 a6 = some r → rf_Con j_X4_extend e (rf_sh w) [.ref 175, .int a1, .int a2, .int a3, .long a4, .long a6] (rf_MM w m) none (rf_MM w r)) {rec76 : Int32 → Int32 → Int32 → Int64 → Int64 → Int32 → rf_m → Option (rf_m)} (hr76 : ∀ (a1 : Int32) (a2 : Int32) (a3 : Int32) (a4 : Int64) (a6 : Int64) (a8 : Int32) (m : rf_m), rec76 a1 a2 a3 a4 a6 a8 m = some r → rf_V 16 (rf_sh w) K 0 0 76 ([(0, .ref 175), (1, .int a1), (2, .int a2), (3, .int a3), (4, .long a4), (6, .long a6), (8, .int a8)], [], rf_MM w m)) (n : Nat) : ∀ (a1 : Int32) (a2 : Int32) (a3 : Int32) (a4 : Int64) (a6 : Int64) (a8 : Int32) (a9 : Int32) (a10 : Int32) (m : rf_m), g_X4_extend_110 w rc_X4_extend rec76 n a1 a2 a3 a4 a6 a8 a9 a10 m = some r → rf_V 16 (rf_sh w) K 0 0 110 ([(0, .ref 175), (1, .int a1), (2, .int a2), (3, .int a3), (4, .long a4), (6, .long a6), (8, .int a8), (9, .int a9), (10, .int a10)], [], rf_MM w m) := by
  induction n with
  | zero => intro a1 a2 a3 a4 a6 a8 a9 a10 m hg; cases hg
  | succ n ih => intro a1 a2 a3 a4 a6 a8 a9 a10 m hg; exact s_X4_extend_110_b C hE hrc_X4_extend hr76 ih a1 a2 a3 a4 a6 a8 a9 a10 m hg
theorem s_X4_extend_105 {w : rf_w} {K : rf_K} {e : Nat} {rc_X4_extend : rf_m → Int32 → Int32 → Int32 → Int64 → Int64 → Option (rf_m)} {r : rf_m} (C : rf_Ctx 4 cX4_extend 16 (e + 3) (rf_sh w) K) (hE : rf_End none K (rf_sh w) 0 0 none (rf_MM w r)) (hrc_X4_extend : ∀ (m : rf_m) (a1 : Int32) (a2 : Int32) (a3 : Int32) (a4 : Int64) (a6 : Int64) (r : rf_m), rc_X4_extend m a1 a2 a3 a4 a6 = some r → rf_Con j_X4_extend e (rf_sh w) [.ref 175, .int a1, .int a2, .int a3, .long a4, .long a6] (rf_MM w m) none (rf_MM w r)) {rec76 : Int32 → Int32 → Int32 → Int64 → Int64 → Int32 → rf_m → Option (rf_m)} (hr76 : ∀ (a1 : Int32) (a2 : Int32) (a3 : Int32) (a4 : Int64) (a6 : Int64) (a8 : Int32) (m : rf_m), rec76 a1 a2 a3 a4 a6 a8 m = some r → rf_V 16 (rf_sh w) K 0 0 76 ([(0, .ref 175), (1, .int a1), (2, .int a2), (3, .int a3), (4, .long a4), (6, .long a6), (8, .int a8)], [], rf_MM w m)) (a1 : Int32) (a2 : Int32) (a3 : Int32) (a4 : Int64) (a6 : Int64) (a8 : Int32) (s0 : Int32) (m : rf_m) (hg : g_X4_extend_105 w rc_X4_extend rec76 a1 a2 a3 a4 a6 a8 s0 m = some r) : rf_V 16 (rf_sh w) K 0 0 105 ([(0, .ref 175), (1, .int a1), (2, .int a2), (3, .int a3), (4, .long a4), (6, .long a6), (8, .int a8)], [.int s0], rf_MM w m) := by
  unfold g_X4_extend_105 at hg
  refine rf_seg C [(.istore 9, 2), (.iconst 1, 1), (.istore 10, 2)] (pc' := 110) (S' := ([(10, .int 1), (9, .int s0), (0, .ref 175), (1, .int a1), (2, .int a2), (3, .int a3), (4, .long a4), (6, .long a6), (8, .int a8)], [], rf_MM w m)) (by decide +kernel) rfl trivial ?_
  refine rf_few [2, 3, 4, 5, 6, 7, 8, 1, 0] rfl ?_
  exact s_X4_extend_110 C hE hrc_X4_extend hr76 rf_fuel a1 a2 a3 a4 a6 a8 s0 1 m hg
theorem s_X4_extend_76_b {w : rf_w} {K : rf_K} {e : Nat} {rc_X4_extend : rf_m → Int32 → Int32 → Int32 → Int64 → Int64 → Option (rf_m)} {r : rf_m} (C : rf_Ctx 4 cX4_extend 16 (e + 3) (rf_sh w) K) (hE : rf_End none K (rf_sh w) 0 0 none (rf_MM w r)) (hrc_X4_extend : ∀ (m : rf_m) (a1 : Int32) (a2 : Int32) (a3 : Int32) (a4 : Int64) (a6 : Int64) (r : rf_m), rc_X4_extend m a1 a2 a3 a4 a6 = some r → rf_Con j_X4_extend e (rf_sh w) [.ref 175, .int a1, .int a2, .int a3, .long a4, .long a6] (rf_MM w m) none (rf_MM w r)) {rec76 : Int32 → Int32 → Int32 → Int64 → Int64 → Int32 → rf_m → Option (rf_m)} (hr76 : ∀ (a1 : Int32) (a2 : Int32) (a3 : Int32) (a4 : Int64) (a6 : Int64) (a8 : Int32) (m : rf_m), rec76 a1 a2 a3 a4 a6 a8 m = some r → rf_V 16 (rf_sh w) K 0 0 76 ([(0, .ref 175), (1, .int a1), (2, .int a2), (3, .int a3), (4, .long a4), (6, .long a6), (8, .int a8)], [], rf_MM w m)) (a1 : Int32) (a2 : Int32) (a3 : Int32) (a4 : Int64) (a6 : Int64) (a8 : Int32) (m : rf_m) (hg : g_X4_extend_76_b w rc_X4_extend rec76 a1 a2 a3 a4 a6 a8 m = some r) : rf_V 16 (rf_sh w) K 0 0 76 ([(0, .ref 175), (1, .int a1), (2, .int a2), (3, .int a3), (4, .long a4), (6, .long a6), (8, .int a8)], [], rf_MM w m) := by
  unfold g_X4_extend_76_b at hg
  refine rf_seg C [(.iload 8, 2), (.aload 0, 1), (.invokeinterface 4 8, 3)] (pc' := 82) (S' := ([(0, .ref 175), (1, .int a1), (2, .int a2), (3, .int a3), (4, .long a4), (6, .long a6), (8, .int a8)], [.int (m.1 175 8), .int a8], rf_MM w m)) (by decide +kernel) rfl trivial ?_
  refine rf_icmp_ge C 184 266 (by decide +kernel) (fun hc => ?_) (fun hc => ?_)
  · replace hg := (if_pos hc).symm.trans hg
    obtain rfl := Option.some.inj hg
    exact rf_vret C hE (by decide +kernel)
  · replace hg := (if_neg hc).symm.trans hg
    refine rf_seg C [(.iload 2, 1), (.iload 8, 2), (.iushr, 1), (.iconst 1, 1), (.iand, 1)] (pc' := 91) (S' := ([(0, .ref 175), (1, .int a1), (2, .int a2), (3, .int a3), (4, .long a4), (6, .long a6), (8, .int a8)], [.int (((Int32.toUInt32 a2 >>> (Int32.toUInt32 a8 &&& Int32.toUInt32 31)).toInt32) &&& 1)], rf_MM w m)) (by decide +kernel) rfl trivial ?_
    refine rf_if_eq C 7 98 (by decide +kernel) (fun hc => ?_) (fun hc => ?_)
    · replace hg := (if_pos hc).symm.trans hg
      refine rf_seg C [(.aload 0, 1), (.iload 3, 1), (.iload 8, 2)] (pc' := 102) (S' := ([(0, .ref 175), (1, .int a1), (2, .int a2), (3, .int a3), (4, .long a4), (6, .long a6), (8, .int a8)], [.int a8, .int a3, .ref 175], rf_MM w m)) (by decide +kernel) rfl trivial ?_
      obtain ⟨y0, m0, hc0, hg⟩ := rf_b_some hg
      refine rf_callv C rf_fit0 j_X4_placeOf (ci := 4) (As := [.int a3, .int a8]) (rest := []) mw_X4_placeOf (c_X4_placeOf hc0) (by omega) rfl (by decide) lk_4_160 rfl rfl (Nat.le_of_ble_eq_true rfl) (by decide +kernel) ?_
      show rf_V 16 (rf_sh w) K 0 0 105 ([(0, .ref 175), (1, .int a1), (2, .int a2), (3, .int a3), (4, .long a4), (6, .long a6), (8, .int a8)], [.int y0], rf_MM w m0)
      refine rf_few [0, 1, 2, 3, 4, 5, 6] rfl ?_
      exact s_X4_extend_105 C hE hrc_X4_extend hr76 a1 a2 a3 a4 a6 a8 y0 m0 hg
    · replace hg := (if_neg hc).symm.trans hg
      refine rf_seg C [(.iconst (-1), 1)] (pc' := 95) (S' := ([(0, .ref 175), (1, .int a1), (2, .int a2), (3, .int a3), (4, .long a4), (6, .long a6), (8, .int a8)], [.int ((-1))], rf_MM w m)) (by decide +kernel) rfl trivial ?_
      refine rf_goto C 10 105 (by decide +kernel) ?_
      refine rf_few [0, 1, 2, 3, 4, 5, 6] rfl ?_
      exact s_X4_extend_105 C hE hrc_X4_extend hr76 a1 a2 a3 a4 a6 a8 ((-1)) m hg
theorem s_X4_extend_76 {w : rf_w} {K : rf_K} {e : Nat} {rc_X4_extend : rf_m → Int32 → Int32 → Int32 → Int64 → Int64 → Option (rf_m)} {r : rf_m} (C : rf_Ctx 4 cX4_extend 16 (e + 3) (rf_sh w) K) (hE : rf_End none K (rf_sh w) 0 0 none (rf_MM w r)) (hrc_X4_extend : ∀ (m : rf_m) (a1 : Int32) (a2 : Int32) (a3 : Int32) (a4 : Int64) (a6 : Int64) (r : rf_m), rc_X4_extend m a1 a2 a3 a4 a6 = some r → rf_Con j_X4_extend e (rf_sh w) [.ref 175, .int a1, .int a2, .int a3, .long a4, .long a6] (rf_MM w m) none (rf_MM w r)) (n : Nat) : ∀ (a1 : Int32) (a2 : Int32) (a3 : Int32) (a4 : Int64) (a6 : Int64) (a8 : Int32) (m : rf_m), g_X4_extend_76 w rc_X4_extend n a1 a2 a3 a4 a6 a8 m = some r → rf_V 16 (rf_sh w) K 0 0 76 ([(0, .ref 175), (1, .int a1), (2, .int a2), (3, .int a3), (4, .long a4), (6, .long a6), (8, .int a8)], [], rf_MM w m) := by
  induction n with
  | zero => intro a1 a2 a3 a4 a6 a8 m hg; cases hg
  | succ n ih => intro a1 a2 a3 a4 a6 a8 m hg; exact s_X4_extend_76_b C hE hrc_X4_extend ih a1 a2 a3 a4 a6 a8 m hg
theorem s_X4_extend_53 {w : rf_w} {K : rf_K} {e : Nat} {rc_X4_extend : rf_m → Int32 → Int32 → Int32 → Int64 → Int64 → Option (rf_m)} {r : rf_m} (C : rf_Ctx 4 cX4_extend 16 (e + 3) (rf_sh w) K) (hE : rf_End none K (rf_sh w) 0 0 none (rf_MM w r)) (hrc_X4_extend : ∀ (m : rf_m) (a1 : Int32) (a2 : Int32) (a3 : Int32) (a4 : Int64) (a6 : Int64) (r : rf_m), rc_X4_extend m a1 a2 a3 a4 a6 = some r → rf_Con j_X4_extend e (rf_sh w) [.ref 175, .int a1, .int a2, .int a3, .long a4, .long a6] (rf_MM w m) none (rf_MM w r)) (a1 : Int32) (a2 : Int32) (a3 : Int32) (a4 : Int64) (a6 : Int64) (m : rf_m) (hg : g_X4_extend_53 w rc_X4_extend a1 a2 a3 a4 a6 m = some r) : rf_V 16 (rf_sh w) K 0 0 53 ([(0, .ref 175), (1, .int a1), (2, .int a2), (3, .int a3), (4, .long a4), (6, .long a6)], [], rf_MM w m) := by
  unfold g_X4_extend_53 at hg
  refine rf_seg C [(.iload 1, 1), (.iconst 6, 2)] (pc' := 56) (S' := ([(0, .ref 175), (1, .int a1), (2, .int a2), (3, .int a3), (4, .long a4), (6, .long a6)], [.int 6, .int a1], rf_MM w m)) (by decide +kernel) rfl trivial ?_
  refine rf_icmp_ge C 16 72 (by decide +kernel) (fun hc => ?_) (fun hc => ?_)
  · replace hg := (if_pos hc).symm.trans hg
    obtain rfl := Option.some.inj hg
    exact rf_vret C hE (by decide +kernel)
  · replace hg := (if_neg hc).symm.trans hg
    refine rf_seg C [(.aload 0, 1), (.iload 1, 1), (.lload 6, 2), (.lload 4, 2), (.lsub, 1)] (pc' := 66) (S' := ([(0, .ref 175), (1, .int a1), (2, .int a2), (3, .int a3), (4, .long a4), (6, .long a6)], [.long (a6 - a4), .int a1, .ref 175], rf_MM w m)) (by decide +kernel) rfl trivial ?_
    obtain ⟨y0, m0, hc0, hg⟩ := rf_b_some hg
    refine rf_callv C rf_fit0 j_X4_isHopeless (ci := 4) (As := [.int a1, .long (a6 - a4)]) (rest := []) mw_X4_isHopeless (c_X4_isHopeless hc0) (by omega) rfl (by decide) lk_4_157 rfl rfl (Nat.le_of_ble_eq_true rfl) (by decide +kernel) ?_
    show rf_V 16 (rf_sh w) K 0 0 69 ([(0, .ref 175), (1, .int a1), (2, .int a2), (3, .int a3), (4, .long a4), (6, .long a6)], [.int y0], rf_MM w m0)
    refine rf_if_eq C 4 73 (by decide +kernel) (fun hc => ?_) (fun hc => ?_)
    · replace hg := (if_pos hc).symm.trans hg
      refine rf_seg C [(.iconst 0, 1), (.istore 8, 2)] (pc' := 76) (S' := ([(8, .int 0), (0, .ref 175), (1, .int a1), (2, .int a2), (3, .int a3), (4, .long a4), (6, .long a6)], [], rf_MM w m0)) (by decide +kernel) rfl trivial ?_
      refine rf_few [1, 2, 3, 4, 5, 6, 0] rfl ?_
      exact s_X4_extend_76 C hE hrc_X4_extend rf_fuel a1 a2 a3 a4 a6 0 m0 hg
    · replace hg := (if_neg hc).symm.trans hg
      obtain rfl := Option.some.inj hg
      exact rf_vret C hE (by decide +kernel)
theorem c_X4_extend_f {w : rf_w} {e : Nat} {rc_X4_extend : rf_m → Int32 → Int32 → Int32 → Int64 → Int64 → Option (rf_m)} {m : rf_m} {a1 : Int32} {a2 : Int32} {a3 : Int32} {a4 : Int64} {a6 : Int64} {r : rf_m} (hrc_X4_extend : ∀ (m : rf_m) (a1 : Int32) (a2 : Int32) (a3 : Int32) (a4 : Int64) (a6 : Int64) (r : rf_m), rc_X4_extend m a1 a2 a3 a4 a6 = some r → rf_Con j_X4_extend e (rf_sh w) [.ref 175, .int a1, .int a2, .int a3, .long a4, .long a6] (rf_MM w m) none (rf_MM w r)) (hg : g_X4_extend_f w rc_X4_extend m a1 a2 a3 a4 a6 = some r) : rf_Con j_X4_extend (e + 3) (rf_sh w) [.ref 175, .int a1, .int a2, .int a3, .long a4, .long a6] (rf_MM w m) none (rf_MM w r) := by
  refine rf_con j_X4_extend (e + 3) ⟨by decide +kernel, rfl, Nat.le_of_ble_eq_true rfl⟩ (fun K C hE => ?_)
  unfold g_X4_extend_f at hg
  show rf_V 16 (rf_sh w) K 0 0 0 ([(0, .ref 175), (1, .int a1), (2, .int a2), (3, .int a3), (4, .long a4), (6, .long a6)], [], rf_MM w m)
  refine rf_seg C [(.iload 3, 1), (.aload 0, 1), (.invokeinterface 4 18, 3)] (pc' := 5) (S' := ([(0, .ref 175), (1, .int a1), (2, .int a2), (3, .int a3), (4, .long a4), (6, .long a6)], [.int (m.1 175 18), .int a3], rf_MM w m)) (by decide +kernel) rfl trivial ?_
  refine rf_icmp_ne C 48 53 (by decide +kernel) (fun hc => ?_) (fun hc => ?_)
  · replace hg := (if_neg hc).symm.trans hg
    refine rf_few [0, 1, 2, 3, 4, 5] rfl ?_
    exact s_X4_extend_53 C hE hrc_X4_extend a1 a2 a3 a4 a6 m hg
  · replace hg := (if_pos hc).symm.trans hg
    refine rf_seg C [(.aload 0, 1), (.iload 1, 1), (.lload 6, 2), (.lload 4, 2), (.lsub, 1)] (pc' := 15) (S' := ([(0, .ref 175), (1, .int a1), (2, .int a2), (3, .int a3), (4, .long a4), (6, .long a6)], [.long (a6 - a4), .int a1, .ref 175], rf_MM w m)) (by decide +kernel) rfl trivial ?_
    obtain ⟨y0, m0, hc0, hg⟩ := rf_b_some hg
    refine rf_callv C rf_fit0 j_X4_isBetter (ci := 4) (As := [.int a1, .long (a6 - a4)]) (rest := []) mw_X4_isBetter (c_X4_isBetter hc0) (by omega) rfl (by decide) lk_4_153 rfl rfl (Nat.le_of_ble_eq_true rfl) (by decide +kernel) ?_
    show rf_V 16 (rf_sh w) K 0 0 18 ([(0, .ref 175), (1, .int a1), (2, .int a2), (3, .int a3), (4, .long a4), (6, .long a6)], [.int y0], rf_MM w m0)
    refine rf_if_eq C 35 53 (by decide +kernel) (fun hc => ?_) (fun hc => ?_)
    · replace hg := (if_pos hc).symm.trans hg
      refine rf_few [0, 1, 2, 3, 4, 5] rfl ?_
      exact s_X4_extend_53 C hE hrc_X4_extend a1 a2 a3 a4 a6 m0 hg
    · replace hg := (if_neg hc).symm.trans hg
      refine rf_seg C [(.aload 0, 1), (.invokeinterface 4 13, 3), (.iconst 0, 1), (.aload 0, 1), (.invokeinterface 4 14, 3), (.iconst 0, 1), (.iconst 12, 2)] (pc' := 33) (S' := ([(0, .ref 175), (1, .int a1), (2, .int a2), (3, .int a3), (4, .long a4), (6, .long a6)], [.int 12, .int 0, .ref 182, .int 0, .ref 181], rf_MM w m0)) (by decide +kernel) rfl trivial ?_
      obtain ⟨q1, hg⟩ := rf_g_some hg
      refine rf_copyi C (by omega) (n0 := 12) (n1 := 12) lk_4_84 rfl rfl q1 (Nat.le_of_ble_eq_true rfl) (by decide +kernel) ?_
      show rf_V 16 (rf_sh w) K 0 0 36 ([(0, .ref 175), (1, .int a1), (2, .int a2), (3, .int a3), (4, .long a4), (6, .long a6)], [], rf_MM w (rf_ci m0 181 182 0 0 12))
      refine rf_seg C [(.aload 0, 1), (.iload 1, 1), (.multianewarray 4 15, 3), (.aload 0, 1), (.lload 4, 2), (.multianewarray 4 16, 3), (.aload 0, 1), (.lload 6, 2), (.multianewarray 4 17, 3)] (pc' := 53) (S' := ([(0, .ref 175), (1, .int a1), (2, .int a2), (3, .int a3), (4, .long a4), (6, .long a6)], [], rf_MM w (rf_l (rf_l (rf_i (rf_ci m0 181 182 0 0 12) 175 15 a1) 175 16 a4) 175 17 a6))) (by decide +kernel) rfl trivial ?_
      refine rf_few [0, 1, 2, 3, 4, 5] rfl ?_
      exact s_X4_extend_53 C hE hrc_X4_extend a1 a2 a3 a4 a6 (rf_l (rf_l (rf_i (rf_ci m0 181 182 0 0 12) 175 15 a1) 175 16 a4) 175 17 a6) hg
theorem c_X4_extend {w : rf_w} (n : Nat) : ∀ {m : rf_m} {a1 : Int32} {a2 : Int32} {a3 : Int32} {a4 : Int64} {a6 : Int64} {r : rf_m}, g_X4_extend w n m a1 a2 a3 a4 a6 = some r → rf_Con j_X4_extend (n * 3) (rf_sh w) [.ref 175, .int a1, .int a2, .int a3, .long a4, .long a6] (rf_MM w m) none (rf_MM w r) := by
  induction n with
  | zero => intro m a1 a2 a3 a4 a6 r hg; cases hg
  | succ n ih =>
    intro m a1 a2 a3 a4 a6 r hg
    rw [Nat.succ_mul]
    exact c_X4_extend_f (e := n * 3) (rc_X4_extend := g_X4_extend w n) (fun m a1 a2 a3 a4 a6 r h => ih h) hg
-- X4_seek
abbrev j_X4_seek : rf_J := (4, yX4_seek, cX4_seek, 4, (some .int))
theorem mw_X4_seek : rf_mv j_X4_seek (rf_R 4) 3 := ⟨⟨rf_mem 76 (by decide +kernel), rf_mem 76 (by decide +kernel), rf_mem 1 (by decide +kernel), rf_mem 76 (by decide +kernel)⟩, by decide +kernel, by decide⟩
def g_X4_seek (w : rf_w) (m : rf_m) (a1 : Int32) (a2 : Int32) (a3 : Int32) : Option (Int32 × rf_m) := rf_b (g_X4_gatherWell w m a3) fun y0 m0 => (if y0 = 0 then some (7, m0) else rf_bv (g_X4_measureShrink w m0) fun m1 => rf_b (g_X6_sideAt w (rf_i (rf_i m1 175 18 a2) 175 15 ((-1))) a1) fun y2 m2 => rf_b (g_X6_leastOf w m2 a1) fun y3 m3 => rf_b (g_X6_mostOf w m3 a1) fun y4 m4 => rf_bv (g_X4_extend w 16 m4 0 0 y2 (Int32.toInt64 y3) (Int32.toInt64 y4)) fun m5 => (if (m5.1 175 15) = ((-1)) then some (5, m5) else rf_g (rf_cg 0 0 6 12 6) (some (0, rf_i (rf_i (rf_i (rf_ci m5 182 176 0 0 6) 175 1 ((rf_ci m5 182 176 0 0 6).1 175 15)) 175 2 (Int64.toInt32 ((rf_i (rf_ci m5 182 176 0 0 6) 175 1 ((rf_ci m5 182 176 0 0 6).1 175 15)).2 175 16))) 175 3 (Int64.toInt32 ((rf_i (rf_i (rf_ci m5 182 176 0 0 6) 175 1 ((rf_ci m5 182 176 0 0 6).1 175 15)) 175 2 (Int64.toInt32 ((rf_i (rf_ci m5 182 176 0 0 6) 175 1 ((rf_ci m5 182 176 0 0 6).1 175 15)).2 175 16))).2 175 17))))))
theorem c_X4_seek {w : rf_w} {m : rf_m} {a1 : Int32} {a2 : Int32} {a3 : Int32} {r : Int32 × rf_m} (hg : g_X4_seek w m a1 a2 a3 = some r) : rf_Con j_X4_seek 49 (rf_sh w) [.ref 175, .int a1, .int a2, .int a3] (rf_MM w m) (some (.int r.1)) (rf_MM w r.2) := by
  refine rf_con j_X4_seek 49 ⟨by decide +kernel, rfl, Nat.le_of_ble_eq_true rfl⟩ (fun K C hE => ?_)
  unfold g_X4_seek at hg
  show rf_V 4 (rf_sh w) K 0 0 0 ([(0, .ref 175), (1, .int a1), (2, .int a2), (3, .int a3)], [], rf_MM w m)
  refine rf_seg C [(.aload 0, 1), (.iload 3, 1)] (pc' := 2) (S' := ([(0, .ref 175), (1, .int a1), (2, .int a2), (3, .int a3)], [.int a3, .ref 175], rf_MM w m)) (by decide +kernel) rfl trivial ?_
  obtain ⟨y0, m0, hc0, hg⟩ := rf_b_some hg
  refine rf_callv C rf_fit0 j_X4_gatherWell (ci := 4) (As := [.int a3]) (rest := []) mw_X4_gatherWell (c_X4_gatherWell hc0) (by decide) rfl (by decide) lk_4_55 rfl rfl (Nat.le_of_ble_eq_true rfl) (by decide +kernel) ?_
  show rf_V 4 (rf_sh w) K 0 0 5 ([(0, .ref 175), (1, .int a1), (2, .int a2), (3, .int a3)], [.int y0], rf_MM w m0)
  refine rf_if_ne C 6 11 (by decide +kernel) (fun hc => ?_) (fun hc => ?_)
  · replace hg := (if_neg hc).symm.trans hg
    refine rf_seg C [(.aload 0, 1)] (pc' := 12) (S' := ([(0, .ref 175), (1, .int a1), (2, .int a2), (3, .int a3)], [.ref 175], rf_MM w m0)) (by decide +kernel) rfl trivial ?_
    obtain ⟨m1, hc1, hg⟩ := rf_bv_some hg
    refine rf_callv C rf_fit0 j_X4_measureShrink (ci := 4) (As := []) (rest := []) mw_X4_measureShrink (c_X4_measureShrink hc1) (by decide) rfl (by decide) lk_4_59 rfl rfl (Nat.le_of_ble_eq_true rfl) (by decide +kernel) ?_
    show rf_V 4 (rf_sh w) K 0 0 15 ([(0, .ref 175), (1, .int a1), (2, .int a2), (3, .int a3)], [], rf_MM w m1)
    refine rf_seg C [(.aload 0, 1), (.iload 2, 1), (.multianewarray 4 18, 3), (.aload 0, 1), (.iconst (-1), 1), (.multianewarray 4 15, 3), (.aload 0, 1), (.iconst 0, 1), (.iconst 0, 1), (.aload 0, 1), (.invokeinterface 4 6, 3), (.iload 1, 1)] (pc' := 33) (S' := ([(0, .ref 175), (1, .int a1), (2, .int a2), (3, .int a3)], [.int a1, .ref 41, .int 0, .int 0, .ref 175], rf_MM w (rf_i (rf_i m1 175 18 a2) 175 15 ((-1))))) (by decide +kernel) rfl trivial ?_
    obtain ⟨y2, m2, hc2, hg⟩ := rf_b_some hg
    refine rf_callv C rf_fit0 j_X6_sideAt (ci := 6) (As := [.int a1]) (rest := [.int 0, .int 0, .ref 175]) mw_X6_sideAt (c_X6_sideAt hc2) (by decide) rfl (by decide) lk_4_68 rfl rfl (Nat.le_of_ble_eq_true rfl) (by decide +kernel) ?_
    show rf_V 4 (rf_sh w) K 0 0 36 ([(0, .ref 175), (1, .int a1), (2, .int a2), (3, .int a3)], [.int y2, .int 0, .int 0, .ref 175], rf_MM w m2)
    refine rf_seg C [(.aload 0, 1), (.invokeinterface 4 6, 3), (.iload 1, 1)] (pc' := 41) (S' := ([(0, .ref 175), (1, .int a1), (2, .int a2), (3, .int a3)], [.int a1, .ref 41, .int y2, .int 0, .int 0, .ref 175], rf_MM w m2)) (by decide +kernel) rfl trivial ?_
    obtain ⟨y3, m3, hc3, hg⟩ := rf_b_some hg
    refine rf_callv C rf_fit0 j_X6_leastOf (ci := 6) (As := [.int a1]) (rest := [.int y2, .int 0, .int 0, .ref 175]) mw_X6_leastOf (c_X6_leastOf hc3) (by decide) rfl (by decide) lk_4_74 rfl rfl (Nat.le_of_ble_eq_true rfl) (by decide +kernel) ?_
    show rf_V 4 (rf_sh w) K 0 0 44 ([(0, .ref 175), (1, .int a1), (2, .int a2), (3, .int a3)], [.int y3, .int y2, .int 0, .int 0, .ref 175], rf_MM w m3)
    refine rf_seg C [(.i2l, 1), (.aload 0, 1), (.invokeinterface 4 6, 3), (.iload 1, 1)] (pc' := 50) (S' := ([(0, .ref 175), (1, .int a1), (2, .int a2), (3, .int a3)], [.int a1, .ref 41, .long (Int32.toInt64 y3), .int y2, .int 0, .int 0, .ref 175], rf_MM w m3)) (by decide +kernel) rfl trivial ?_
    obtain ⟨y4, m4, hc4, hg⟩ := rf_b_some hg
    refine rf_callv C rf_fit0 j_X6_mostOf (ci := 6) (As := [.int a1]) (rest := [.long (Int32.toInt64 y3), .int y2, .int 0, .int 0, .ref 175]) mw_X6_mostOf (c_X6_mostOf hc4) (by decide) rfl (by decide) lk_4_77 rfl rfl (Nat.le_of_ble_eq_true rfl) (by decide +kernel) ?_
    show rf_V 4 (rf_sh w) K 0 0 53 ([(0, .ref 175), (1, .int a1), (2, .int a2), (3, .int a3)], [.int y4, .long (Int32.toInt64 y3), .int y2, .int 0, .int 0, .ref 175], rf_MM w m4)
    refine rf_seg C [(.i2l, 1)] (pc' := 54) (S' := ([(0, .ref 175), (1, .int a1), (2, .int a2), (3, .int a3)], [.long (Int32.toInt64 y4), .long (Int32.toInt64 y3), .int y2, .int 0, .int 0, .ref 175], rf_MM w m4)) (by decide +kernel) rfl trivial ?_
    obtain ⟨m5, hc5, hg⟩ := rf_bv_some hg
    refine rf_callv C rf_fit0 j_X4_extend (ci := 4) (As := [.int 0, .int 0, .int y2, .long (Int32.toInt64 y3), .long (Int32.toInt64 y4)]) (rest := []) mw_X4_extend (c_X4_extend 16 hc5) (by decide) rfl (by decide) lk_4_80 rfl rfl (Nat.le_of_ble_eq_true rfl) (by decide +kernel) ?_
    show rf_V 4 (rf_sh w) K 0 0 57 ([(0, .ref 175), (1, .int a1), (2, .int a2), (3, .int a3)], [], rf_MM w m5)
    refine rf_seg C [(.aload 0, 1), (.invokeinterface 4 15, 3), (.iconst (-1), 1)] (pc' := 62) (S' := ([(0, .ref 175), (1, .int a1), (2, .int a2), (3, .int a3)], [.int ((-1)), .int (m5.1 175 15)], rf_MM w m5)) (by decide +kernel) rfl trivial ?_
    refine rf_icmp_ne C 5 67 (by decide +kernel) (fun hc => ?_) (fun hc => ?_)
    · replace hg := (if_neg hc).symm.trans hg
      refine rf_seg C [(.aload 0, 1), (.invokeinterface 4 14, 3), (.iconst 0, 1), (.aload 0, 1), (.invokeinterface 4 0, 3), (.iconst 0, 1), (.iconst 6, 2)] (pc' := 79) (S' := ([(0, .ref 175), (1, .int a1), (2, .int a2), (3, .int a3)], [.int 6, .int 0, .ref 176, .int 0, .ref 182], rf_MM w m5)) (by decide +kernel) rfl trivial ?_
      obtain ⟨q6, hg⟩ := rf_g_some hg
      refine rf_copyi C (by decide) (n0 := 12) (n1 := 6) lk_4_84 rfl rfl q6 (Nat.le_of_ble_eq_true rfl) (by decide +kernel) ?_
      show rf_V 4 (rf_sh w) K 0 0 82 ([(0, .ref 175), (1, .int a1), (2, .int a2), (3, .int a3)], [], rf_MM w (rf_ci m5 182 176 0 0 6))
      refine rf_seg C [(.aload 0, 1), (.aload 0, 1), (.invokeinterface 4 15, 3), (.multianewarray 4 1, 3), (.aload 0, 1), (.aload 0, 1), (.invokeinterface 4 16, 3), (.l2i, 1), (.multianewarray 4 2, 3), (.aload 0, 1), (.aload 0, 1), (.invokeinterface 4 17, 3), (.l2i, 1), (.multianewarray 4 3, 3), (.iconst 0, 1)] (pc' := 109) (S' := ([(0, .ref 175), (1, .int a1), (2, .int a2), (3, .int a3)], [.int 0], rf_MM w (rf_i (rf_i (rf_i (rf_ci m5 182 176 0 0 6) 175 1 ((rf_ci m5 182 176 0 0 6).1 175 15)) 175 2 (Int64.toInt32 ((rf_i (rf_ci m5 182 176 0 0 6) 175 1 ((rf_ci m5 182 176 0 0 6).1 175 15)).2 175 16))) 175 3 (Int64.toInt32 ((rf_i (rf_i (rf_ci m5 182 176 0 0 6) 175 1 ((rf_ci m5 182 176 0 0 6).1 175 15)) 175 2 (Int64.toInt32 ((rf_i (rf_ci m5 182 176 0 0 6) 175 1 ((rf_ci m5 182 176 0 0 6).1 175 15)).2 175 16))).2 175 17))))) (by decide +kernel) rfl trivial ?_
      obtain rfl := Option.some.inj hg
      exact rf_iret C hE (by decide +kernel)
    · replace hg := (if_pos hc).symm.trans hg
      refine rf_seg C [(.iconst 5, 1)] (pc' := 66) (S' := ([(0, .ref 175), (1, .int a1), (2, .int a2), (3, .int a3)], [.int 5], rf_MM w m5)) (by decide +kernel) rfl trivial ?_
      obtain rfl := Option.some.inj hg
      exact rf_iret C hE (by decide +kernel)
  · replace hg := (if_pos hc).symm.trans hg
    refine rf_seg C [(.iconst 7, 2)] (pc' := 10) (S' := ([(0, .ref 175), (1, .int a1), (2, .int a2), (3, .int a3)], [.int 7], rf_MM w m0)) (by decide +kernel) rfl trivial ?_
    obtain rfl := Option.some.inj hg
    exact rf_iret C hE (by decide +kernel)
-- J0_isLatin1_aae02
abbrev j_J0_isLatin1_aae02 : rf_J := (24, yJ0_isLatin1_aae02, cJ0_isLatin1_aae02, 1, (some .boolean))
theorem mw_J0_isLatin1_aae02 : rf_mv j_J0_isLatin1_aae02 (rf_own 24) 0 := ⟨⟨rf_mem 38 (by decide +kernel), rf_mem 38 (by decide +kernel), rf_mem 38 (by decide +kernel), rf_mem 38 (by decide +kernel)⟩, by decide +kernel, by decide⟩
def g_J0_isLatin1_aae02 (w : rf_w) (m : rf_m) (a0 : Nat) : Option (Int32 × rf_m) := rf_g (rf_isS a0) (((some (1, m))))
theorem c_J0_isLatin1_aae02 {w : rf_w} {m : rf_m} {a0 : Nat} {r : Int32 × rf_m} (hg : g_J0_isLatin1_aae02 w m a0 = some r) : rf_Con j_J0_isLatin1_aae02 1 (rf_sh w) [.ref a0] (rf_MM w m) (some (.int r.1)) (rf_MM w r.2) := by
  refine rf_con j_J0_isLatin1_aae02 1 ⟨by decide +kernel, rfl, Nat.le_of_ble_eq_true rfl⟩ (fun K C hE => ?_)
  unfold g_J0_isLatin1_aae02 at hg
  show rf_V 1 (rf_sh w) K 0 0 0 ([(0, .ref a0)], [], rf_MM w m)
  obtain ⟨q0, hg⟩ := rf_g_some hg
  refine rf_s_cmp C (idx := 38) (rf_mem 38 (by decide +kernel)) (by decide +kernel) ?_
  show rf_V 1 (rf_sh w) K 0 0 3 ([(0, .ref a0)], [.int 1], rf_MM w m)
  refine rf_if_eq C 14 17 (by decide +kernel) (fun hc => ?_) (fun hc => ?_)
  · exact absurd hc (by decide)
  · clear hc
    refine rf_seg C [(.aload 0, 1)] (pc' := 7) (S' := ([(0, .ref a0)], [.ref a0], rf_MM w m)) (by decide +kernel) rfl trivial ?_
    refine rf_s_cod C (idx := 15) q0 (rf_mem 38 (by decide +kernel)) (by decide +kernel) ?_
    show rf_V 1 (rf_sh w) K 0 0 10 ([(0, .ref a0)], [.int 0], rf_MM w m)
    refine rf_if_ne C 7 17 (by decide +kernel) (fun hc => ?_) (fun hc => ?_)
    · exact absurd hc (by decide)
    · clear hc
      refine rf_seg C [(.iconst 1, 1)] (pc' := 14) (S' := ([(0, .ref a0)], [.int 1], rf_MM w m)) (by decide +kernel) rfl trivial ?_
      refine rf_goto C 4 18 (by decide +kernel) ?_
      obtain rfl := Option.some.inj hg
      exact rf_zret C hE (by decide) (by decide +kernel)
-- J0_coder_7d493
abbrev j_J0_coder_7d493 : rf_J := (24, yJ0_coder_7d493, cJ0_coder_7d493, 1, (some .byte))
theorem mw_J0_coder_7d493 : rf_mv j_J0_coder_7d493 (rf_own 24) 0 := ⟨⟨rf_mem 38 (by decide +kernel), rf_mem 39 (by decide +kernel), rf_mem 38 (by decide +kernel), rf_mem 39 (by decide +kernel)⟩, by decide +kernel, by decide⟩
def g_J0_coder_7d493 (w : rf_w) (m : rf_m) (a0 : Nat) : Option (Int32 × rf_m) := rf_g (rf_isS a0) ((some (0, m)))
theorem c_J0_coder_7d493 {w : rf_w} {m : rf_m} {a0 : Nat} {r : Int32 × rf_m} (hg : g_J0_coder_7d493 w m a0 = some r) : rf_Con j_J0_coder_7d493 1 (rf_sh w) [.ref a0] (rf_MM w m) (some (.int r.1)) (rf_MM w r.2) := by
  refine rf_con j_J0_coder_7d493 1 ⟨by decide +kernel, rfl, Nat.le_of_ble_eq_true rfl⟩ (fun K C hE => ?_)
  unfold g_J0_coder_7d493 at hg
  show rf_V 1 (rf_sh w) K 0 0 0 ([(0, .ref a0)], [], rf_MM w m)
  obtain ⟨q0, hg⟩ := rf_g_some hg
  refine rf_s_cmp C (idx := 38) (rf_mem 38 (by decide +kernel)) (by decide +kernel) ?_
  show rf_V 1 (rf_sh w) K 0 0 3 ([(0, .ref a0)], [.int 1], rf_MM w m)
  refine rf_if_eq C 10 13 (by decide +kernel) (fun hc => ?_) (fun hc => ?_)
  · exact absurd hc (by decide)
  · clear hc
    refine rf_seg C [(.aload 0, 1)] (pc' := 7) (S' := ([(0, .ref a0)], [.ref a0], rf_MM w m)) (by decide +kernel) rfl trivial ?_
    refine rf_s_cod C (idx := 15) q0 (rf_mem 38 (by decide +kernel)) (by decide +kernel) ?_
    show rf_V 1 (rf_sh w) K 0 0 10 ([(0, .ref a0)], [.int 0], rf_MM w m)
    refine rf_goto C 4 14 (by decide +kernel) ?_
    obtain rfl := Option.some.inj hg
    exact rf_nret C .byte hE (by decide) (by decide +kernel)
-- J0_length_8abf5
abbrev j_J0_length_8abf5 : rf_J := (24, yJ0_length_8abf5, cJ0_length_8abf5, 1, (some .int))
theorem mw_J0_length_8abf5 : rf_mv j_J0_length_8abf5 (rf_own 24) 0 := ⟨⟨rf_mem 38 (by decide +kernel), rf_mem 38 (by decide +kernel), rf_mem 38 (by decide +kernel), rf_mem 38 (by decide +kernel)⟩, by decide +kernel, by decide⟩
def g_J0_length_8abf5 (w : rf_w) (m : rf_m) (a0 : Nat) : Option (Int32 × rf_m) := rf_g (rf_isS a0) (rf_b (g_J0_coder_7d493 w m a0) fun y1 m1 => some ((Int32.ofNat (rf_sB a0).length) >>> (y1 &&& 31), m1))
theorem c_J0_length_8abf5 {w : rf_w} {m : rf_m} {a0 : Nat} {r : Int32 × rf_m} (hg : g_J0_length_8abf5 w m a0 = some r) : rf_Con j_J0_length_8abf5 2 (rf_sh w) [.ref a0] (rf_MM w m) (some (.int r.1)) (rf_MM w r.2) := by
  refine rf_con j_J0_length_8abf5 2 ⟨by decide +kernel, rfl, Nat.le_of_ble_eq_true rfl⟩ (fun K C hE => ?_)
  unfold g_J0_length_8abf5 at hg
  show rf_V 1 (rf_sh w) K 0 0 0 ([(0, .ref a0)], [], rf_MM w m)
  obtain ⟨q0, hg⟩ := rf_g_some hg
  refine rf_seg C [(.aload 0, 1)] (pc' := 1) (S' := ([(0, .ref a0)], [.ref a0], rf_MM w m)) (by decide +kernel) rfl trivial ?_
  refine rf_s_val C (idx := 9) q0 (rf_mem 38 (by decide +kernel)) (by decide +kernel) ?_
  show rf_V 1 (rf_sh w) K 0 0 4 ([(0, .ref a0)], [.ref (a0 + 1000000)], rf_MM w m)
  refine rf_s_len C q0 (by decide +kernel) ?_
  show rf_V 1 (rf_sh w) K 0 0 5 ([(0, .ref a0)], [.int (Int32.ofNat (rf_sB a0).length)], rf_MM w m)
  refine rf_seg C [(.aload 0, 1)] (pc' := 6) (S' := ([(0, .ref a0)], [.ref a0, .int (Int32.ofNat (rf_sB a0).length)], rf_MM w m)) (by decide +kernel) rfl trivial ?_
  obtain ⟨y1, m1, hc1, hg⟩ := rf_b_some hg
  refine rf_callz C rf_fit0 j_J0_coder_7d493 (As := []) (rest := [.int (Int32.ofNat (rf_sB a0).length)]) mw_J0_coder_7d493 (c_J0_coder_7d493 hc1) (by decide) q0 lk_24_335 rfl rfl (Nat.le_of_ble_eq_true rfl) (by decide +kernel) ?_
  show rf_V 1 (rf_sh w) K 0 0 9 ([(0, .ref a0)], [.int y1, .int (Int32.ofNat (rf_sB a0).length)], rf_MM w m1)
  refine rf_seg C [(.ishr, 1)] (pc' := 10) (S' := ([(0, .ref a0)], [.int ((Int32.ofNat (rf_sB a0).length) >>> (y1 &&& 31))], rf_MM w m1)) (by decide +kernel) rfl trivial ?_
  obtain rfl := Option.some.inj hg
  exact rf_iret C hE (by decide +kernel)
-- J1_canEncode_9a6ad
abbrev j_J1_canEncode_9a6ad : rf_J := (25, yJ1_canEncode_9a6ad, cJ1_canEncode_9a6ad, 1, (some .boolean))
theorem mw_J1_canEncode_9a6ad : rf_ms j_J1_canEncode_9a6ad 1 := ⟨⟨rf_mem 39 (by decide +kernel), rf_mem 39 (by decide +kernel), rf_mem 39 (by decide +kernel)⟩, by decide +kernel, by decide⟩
def g_J1_canEncode_9a6ad (w : rf_w) (m : rf_m) (a0 : Int32) : Option (Int32 × rf_m) := (if a0 < 0 then some (0, m) else (if 255 < a0 then some (0, m) else some (1, m)))
theorem c_J1_canEncode_9a6ad {w : rf_w} {m : rf_m} {a0 : Int32} {r : Int32 × rf_m} (hg : g_J1_canEncode_9a6ad w m a0 = some r) : rf_Con j_J1_canEncode_9a6ad 1 (rf_sh w) [.int a0] (rf_MM w m) (some (.int r.1)) (rf_MM w r.2) := by
  refine rf_con j_J1_canEncode_9a6ad 1 ⟨by decide +kernel, rfl, Nat.le_of_ble_eq_true rfl⟩ (fun K C hE => ?_)
  unfold g_J1_canEncode_9a6ad at hg
  show rf_V 1 (rf_sh w) K 0 0 0 ([(0, .int a0)], [], rf_MM w m)
  refine rf_seg C [(.iload 0, 1)] (pc' := 1) (S' := ([(0, .int a0)], [.int a0], rf_MM w m)) (by decide +kernel) rfl trivial ?_
  refine rf_if_lt C 14 15 (by decide +kernel) (fun hc => ?_) (fun hc => ?_)
  · replace hg := (if_pos hc).symm.trans hg
    refine rf_seg C [(.iconst 0, 1)] (pc' := 16) (S' := ([(0, .int a0)], [.int 0], rf_MM w m)) (by decide +kernel) rfl trivial ?_
    obtain rfl := Option.some.inj hg
    exact rf_zret C hE (by decide) (by decide +kernel)
  · replace hg := (if_neg hc).symm.trans hg
    refine rf_seg C [(.iload 0, 1), (.iconst 255, 3)] (pc' := 8) (S' := ([(0, .int a0)], [.int 255, .int a0], rf_MM w m)) (by decide +kernel) rfl trivial ?_
    refine rf_icmp_gt C 7 15 (by decide +kernel) (fun hc => ?_) (fun hc => ?_)
    · replace hg := (if_pos hc).symm.trans hg
      refine rf_seg C [(.iconst 0, 1)] (pc' := 16) (S' := ([(0, .int a0)], [.int 0], rf_MM w m)) (by decide +kernel) rfl trivial ?_
      obtain rfl := Option.some.inj hg
      exact rf_zret C hE (by decide) (by decide +kernel)
    · replace hg := (if_neg hc).symm.trans hg
      refine rf_seg C [(.iconst 1, 1)] (pc' := 12) (S' := ([(0, .int a0)], [.int 1], rf_MM w m)) (by decide +kernel) rfl trivial ?_
      refine rf_goto C 4 16 (by decide +kernel) ?_
      obtain rfl := Option.some.inj hg
      exact rf_zret C hE (by decide) (by decide +kernel)
-- J1_indexOfChar_4cfef
abbrev j_J1_indexOfChar_4cfef : rf_J := (25, yJ1_indexOfChar_4cfef, cJ1_indexOfChar_4cfef, 6, (some .int))
theorem mw_J1_indexOfChar_4cfef : rf_ms j_J1_indexOfChar_4cfef 4 := ⟨⟨rf_mem 39 (by decide +kernel), rf_mem 39 (by decide +kernel), rf_mem 39 (by decide +kernel)⟩, by decide +kernel, by decide⟩
def g_J1_indexOfChar_4cfef_7_b (w : rf_w) (rec7 : Nat → Int32 → Int32 → Int32 → rf_m → Option (Int32 × rf_m)) (a0 : Nat) (a3 : Int32) (a4 : Int32) (a5 : Int32) (m : rf_m) : Option (Int32 × rf_m) := rf_g (rf_isS a0) ((if a3 ≤ a5 then some ((-1), m) else rf_g (rf_in a5 (rf_sB a0).length) ((if ((rf_sB a0).getD (Int32.toNatClampNeg a5) 0) = a4 then some (a5, m) else rec7 a0 a3 a4 (a5 + 1) m))))
def g_J1_indexOfChar_4cfef_7 (w : rf_w) : Nat → Nat → Int32 → Int32 → Int32 → rf_m → Option (Int32 × rf_m)
  | 0, _, _, _, _, _ => none
  | n + 1, a0, a3, a4, a5, m => g_J1_indexOfChar_4cfef_7_b w (g_J1_indexOfChar_4cfef_7 w n) a0 a3 a4 a5 m
def g_J1_indexOfChar_4cfef (w : rf_w) (m : rf_m) (a0 : Nat) (a1 : Int32) (a2 : Int32) (a3 : Int32) : Option (Int32 × rf_m) := rf_g (rf_isS a0) (rf_vi ((Int32.toInt8 a1).toInt32) fun x1 => g_J1_indexOfChar_4cfef_7 w rf_fuel a0 a3 x1 a2 m)
theorem s_J1_indexOfChar_4cfef_7_b {w : rf_w} {K : rf_K} {r : Int32 × rf_m} (C : rf_Ctx 25 cJ1_indexOfChar_4cfef 6 1 (rf_sh w) K) (hE : rf_End (some .int) K (rf_sh w) 0 0 (some (.int r.1)) (rf_MM w r.2)) {rec7 : Nat → Int32 → Int32 → Int32 → rf_m → Option (Int32 × rf_m)} (hr7 : ∀ (a0 : Nat) (a3 : Int32) (a4 : Int32) (a5 : Int32) (m : rf_m), rec7 a0 a3 a4 a5 m = some r → rf_V 6 (rf_sh w) K 0 0 7 ([(0, .ref (a0 + 1000000)), (3, .int a3), (4, .int a4), (5, .int a5)], [], rf_MM w m)) (a0 : Nat) (a3 : Int32) (a4 : Int32) (a5 : Int32) (m : rf_m) (hg : g_J1_indexOfChar_4cfef_7_b w rec7 a0 a3 a4 a5 m = some r) : rf_V 6 (rf_sh w) K 0 0 7 ([(0, .ref (a0 + 1000000)), (3, .int a3), (4, .int a4), (5, .int a5)], [], rf_MM w m) := by
  unfold g_J1_indexOfChar_4cfef_7_b at hg
  obtain ⟨q0, hg⟩ := rf_g_some hg
  refine rf_seg C [(.iload 5, 2), (.iload 3, 1)] (pc' := 10) (S' := ([(0, .ref (a0 + 1000000)), (3, .int a3), (4, .int a4), (5, .int a5)], [.int a3, .int a5], rf_MM w m)) (by decide +kernel) rfl trivial ?_
  refine rf_icmp_ge C 21 31 (by decide +kernel) (fun hc => ?_) (fun hc => ?_)
  · replace hg := (if_pos hc).symm.trans hg
    refine rf_seg C [(.iconst (-1), 1)] (pc' := 32) (S' := ([(0, .ref (a0 + 1000000)), (3, .int a3), (4, .int a4), (5, .int a5)], [.int ((-1))], rf_MM w m)) (by decide +kernel) rfl trivial ?_
    obtain rfl := Option.some.inj hg
    exact rf_iret C hE (by decide +kernel)
  · replace hg := (if_neg hc).symm.trans hg
    refine rf_seg C [(.aload 0, 1), (.iload 5, 2)] (pc' := 16) (S' := ([(0, .ref (a0 + 1000000)), (3, .int a3), (4, .int a4), (5, .int a5)], [.int a5, .ref (a0 + 1000000)], rf_MM w m)) (by decide +kernel) rfl trivial ?_
    obtain ⟨q1, hg⟩ := rf_g_some hg
    refine rf_s_bald C q0 (rf_in_of q1) (by decide +kernel) ?_
    show rf_V 6 (rf_sh w) K 0 0 17 ([(0, .ref (a0 + 1000000)), (3, .int a3), (4, .int a4), (5, .int a5)], [.int ((rf_sB a0).getD (Int32.toNatClampNeg a5) 0)], rf_MM w m)
    refine rf_seg C [(.iload 4, 2)] (pc' := 19) (S' := ([(0, .ref (a0 + 1000000)), (3, .int a3), (4, .int a4), (5, .int a5)], [.int a4, .int ((rf_sB a0).getD (Int32.toNatClampNeg a5) 0)], rf_MM w m)) (by decide +kernel) rfl trivial ?_
    refine rf_icmp_ne C 6 25 (by decide +kernel) (fun hc => ?_) (fun hc => ?_)
    · replace hg := (if_neg hc).symm.trans hg
      refine rf_seg C [(.iinc 5 1, 3)] (pc' := 28) (S' := ([(5, .int (a5 + 1)), (0, .ref (a0 + 1000000)), (3, .int a3), (4, .int a4)], [], rf_MM w m)) (by decide +kernel) rfl trivial ?_
      refine rf_goto C (-21) 7 (by decide +kernel) ?_
      refine rf_few [1, 2, 3, 0] rfl ?_
      exact hr7 a0 a3 a4 (a5 + 1) m hg
    · replace hg := (if_pos hc).symm.trans hg
      refine rf_seg C [(.iload 5, 2)] (pc' := 24) (S' := ([(0, .ref (a0 + 1000000)), (3, .int a3), (4, .int a4), (5, .int a5)], [.int a5], rf_MM w m)) (by decide +kernel) rfl trivial ?_
      obtain rfl := Option.some.inj hg
      exact rf_iret C hE (by decide +kernel)
theorem s_J1_indexOfChar_4cfef_7 {w : rf_w} {K : rf_K} {r : Int32 × rf_m} (C : rf_Ctx 25 cJ1_indexOfChar_4cfef 6 1 (rf_sh w) K) (hE : rf_End (some .int) K (rf_sh w) 0 0 (some (.int r.1)) (rf_MM w r.2)) (n : Nat) : ∀ (a0 : Nat) (a3 : Int32) (a4 : Int32) (a5 : Int32) (m : rf_m), g_J1_indexOfChar_4cfef_7 w n a0 a3 a4 a5 m = some r → rf_V 6 (rf_sh w) K 0 0 7 ([(0, .ref (a0 + 1000000)), (3, .int a3), (4, .int a4), (5, .int a5)], [], rf_MM w m) := by
  induction n with
  | zero => intro a0 a3 a4 a5 m hg; cases hg
  | succ n ih => intro a0 a3 a4 a5 m hg; exact s_J1_indexOfChar_4cfef_7_b C hE ih a0 a3 a4 a5 m hg
theorem c_J1_indexOfChar_4cfef {w : rf_w} {m : rf_m} {a0 : Nat} {a1 : Int32} {a2 : Int32} {a3 : Int32} {r : Int32 × rf_m} (hg : g_J1_indexOfChar_4cfef w m a0 a1 a2 a3 = some r) : rf_Con j_J1_indexOfChar_4cfef 1 (rf_sh w) [.ref (a0 + 1000000), .int a1, .int a2, .int a3] (rf_MM w m) (some (.int r.1)) (rf_MM w r.2) := by
  refine rf_con j_J1_indexOfChar_4cfef 1 ⟨by decide +kernel, rfl, Nat.le_of_ble_eq_true rfl⟩ (fun K C hE => ?_)
  unfold g_J1_indexOfChar_4cfef at hg
  show rf_V 6 (rf_sh w) K 0 0 0 ([(0, .ref (a0 + 1000000)), (1, .int a1), (2, .int a2), (3, .int a3)], [], rf_MM w m)
  obtain ⟨q0, hg⟩ := rf_g_some hg
  refine rf_seg C [(.iload 1, 1), (.i2b, 1)] (pc' := 2) (S' := ([(0, .ref (a0 + 1000000)), (1, .int a1), (2, .int a2), (3, .int a3)], [.int ((Int32.toInt8 a1).toInt32)], rf_MM w m)) (by decide +kernel) rfl trivial ?_
  obtain ⟨x1, hx1, hg⟩ := rf_vi_some hg
  refine rf_vi_top hx1 ?_
  refine rf_seg C [(.istore 4, 2), (.iload 2, 1), (.istore 5, 2)] (pc' := 7) (S' := ([(5, .int a2), (4, .int x1), (0, .ref (a0 + 1000000)), (1, .int a1), (2, .int a2), (3, .int a3)], [], rf_MM w m)) (by decide +kernel) rfl trivial ?_
  refine rf_few [2, 5, 1, 0] rfl ?_
  exact s_J1_indexOfChar_4cfef_7 C hE rf_fuel a0 a3 x1 a2 m hg
-- J1_indexOf_4cfef
abbrev j_J1_indexOf_4cfef : rf_J := (25, yJ1_indexOf_4cfef, cJ1_indexOf_4cfef, 4, (some .int))
theorem mw_J1_indexOf_4cfef : rf_ms j_J1_indexOf_4cfef 4 := ⟨⟨rf_mem 39 (by decide +kernel), rf_mem 39 (by decide +kernel), rf_mem 39 (by decide +kernel)⟩, by decide +kernel, by decide⟩
def g_J1_indexOf_4cfef (w : rf_w) (m : rf_m) (a0 : Nat) (a1 : Int32) (a2 : Int32) (a3 : Int32) : Option (Int32 × rf_m) := rf_g (rf_isS a0) (rf_b (g_J1_canEncode_9a6ad w m a1) fun y1 m1 => (if y1 = 0 then some ((-1), m1) else rf_b (g_max w m1 a2 0) fun y2 m2 => rf_b (g_min w m2 a3 (Int32.ofNat (rf_sB a0).length)) fun y3 m3 => (if y2 < y3 then rf_b (g_J1_indexOfChar_4cfef w m3 a0 a1 y2 y3) fun y4 m4 => some (y4, m4) else some ((-1), m3))))
theorem c_J1_indexOf_4cfef {w : rf_w} {m : rf_m} {a0 : Nat} {a1 : Int32} {a2 : Int32} {a3 : Int32} {r : Int32 × rf_m} (hg : g_J1_indexOf_4cfef w m a0 a1 a2 a3 = some r) : rf_Con j_J1_indexOf_4cfef 2 (rf_sh w) [.ref (a0 + 1000000), .int a1, .int a2, .int a3] (rf_MM w m) (some (.int r.1)) (rf_MM w r.2) := by
  refine rf_con j_J1_indexOf_4cfef 2 ⟨by decide +kernel, rfl, Nat.le_of_ble_eq_true rfl⟩ (fun K C hE => ?_)
  unfold g_J1_indexOf_4cfef at hg
  show rf_V 4 (rf_sh w) K 0 0 0 ([(0, .ref (a0 + 1000000)), (1, .int a1), (2, .int a2), (3, .int a3)], [], rf_MM w m)
  obtain ⟨q0, hg⟩ := rf_g_some hg
  refine rf_seg C [(.iload 1, 1)] (pc' := 1) (S' := ([(0, .ref (a0 + 1000000)), (1, .int a1), (2, .int a2), (3, .int a3)], [.int a1], rf_MM w m)) (by decide +kernel) rfl trivial ?_
  obtain ⟨y1, m1, hc1, hg⟩ := rf_b_some hg
  refine rf_calls C rf_fit0 j_J1_canEncode_9a6ad (As := [.int a1]) (rest := []) mw_J1_canEncode_9a6ad (c_J1_canEncode_9a6ad hc1) (by decide) lk_25_88 rfl rfl (Nat.le_of_ble_eq_true rfl) (by decide +kernel) ?_
  show rf_V 4 (rf_sh w) K 0 0 4 ([(0, .ref (a0 + 1000000)), (1, .int a1), (2, .int a2), (3, .int a3)], [.int y1], rf_MM w m1)
  refine rf_if_ne C 5 9 (by decide +kernel) (fun hc => ?_) (fun hc => ?_)
  · replace hg := (if_neg hc).symm.trans hg
    refine rf_seg C [(.iload 2, 1), (.iconst 0, 1)] (pc' := 11) (S' := ([(0, .ref (a0 + 1000000)), (1, .int a1), (2, .int a2), (3, .int a3)], [.int 0, .int a2], rf_MM w m1)) (by decide +kernel) rfl trivial ?_
    obtain ⟨y2, m2, hc2, hg⟩ := rf_b_some hg
    refine rf_calls C rf_fit0 j_max (As := [.int a2, .int 0]) (rest := []) mw_max (c_max hc2) (by decide) lk_25_92 rfl rfl (Nat.le_of_ble_eq_true rfl) (by decide +kernel) ?_
    show rf_V 4 (rf_sh w) K 0 0 14 ([(0, .ref (a0 + 1000000)), (1, .int a1), (2, .int a2), (3, .int a3)], [.int y2], rf_MM w m2)
    refine rf_seg C [(.istore 2, 1), (.iload 3, 1), (.aload 0, 1)] (pc' := 17) (S' := ([(2, .int y2), (0, .ref (a0 + 1000000)), (1, .int a1), (3, .int a3)], [.ref (a0 + 1000000), .int a3], rf_MM w m2)) (by decide +kernel) rfl trivial ?_
    refine rf_s_len C q0 (by decide +kernel) ?_
    show rf_V 4 (rf_sh w) K 0 0 18 ([(2, .int y2), (0, .ref (a0 + 1000000)), (1, .int a1), (3, .int a3)], [.int (Int32.ofNat (rf_sB a0).length), .int a3], rf_MM w m2)
    obtain ⟨y3, m3, hc3, hg⟩ := rf_b_some hg
    refine rf_calls C rf_fit0 j_min (As := [.int a3, .int (Int32.ofNat (rf_sB a0).length)]) (rest := []) mw_min (c_min hc3) (by decide) lk_25_38 rfl rfl (Nat.le_of_ble_eq_true rfl) (by decide +kernel) ?_
    show rf_V 4 (rf_sh w) K 0 0 21 ([(2, .int y2), (0, .ref (a0 + 1000000)), (1, .int a1), (3, .int a3)], [.int y3], rf_MM w m3)
    refine rf_seg C [(.istore 3, 1), (.iload 2, 1), (.iload 3, 1)] (pc' := 24) (S' := ([(3, .int y3), (2, .int y2), (0, .ref (a0 + 1000000)), (1, .int a1)], [.int y3, .int y2], rf_MM w m3)) (by decide +kernel) rfl trivial ?_
    refine rf_icmp_lt C 5 29 (by decide +kernel) (fun hc => ?_) (fun hc => ?_)
    · replace hg := (if_pos hc).symm.trans hg
      refine rf_seg C [(.aload 0, 1), (.iload 1, 1), (.iload 2, 1), (.iload 3, 1)] (pc' := 33) (S' := ([(3, .int y3), (2, .int y2), (0, .ref (a0 + 1000000)), (1, .int a1)], [.int y3, .int y2, .int a1, .ref (a0 + 1000000)], rf_MM w m3)) (by decide +kernel) rfl trivial ?_
      obtain ⟨y4, m4, hc4, hg⟩ := rf_b_some hg
      refine rf_calls C rf_fit0 j_J1_indexOfChar_4cfef (As := [.ref (a0 + 1000000), .int a1, .int y2, .int y3]) (rest := []) mw_J1_indexOfChar_4cfef (c_J1_indexOfChar_4cfef hc4) (by decide) lk_25_95 rfl rfl (Nat.le_of_ble_eq_true rfl) (by decide +kernel) ?_
      show rf_V 4 (rf_sh w) K 0 0 36 ([(3, .int y3), (2, .int y2), (0, .ref (a0 + 1000000)), (1, .int a1)], [.int y4], rf_MM w m4)
      obtain rfl := Option.some.inj hg
      exact rf_iret C hE (by decide +kernel)
    · replace hg := (if_neg hc).symm.trans hg
      refine rf_seg C [(.iconst (-1), 1)] (pc' := 28) (S' := ([(3, .int y3), (2, .int y2), (0, .ref (a0 + 1000000)), (1, .int a1)], [.int ((-1))], rf_MM w m3)) (by decide +kernel) rfl trivial ?_
      obtain rfl := Option.some.inj hg
      exact rf_iret C hE (by decide +kernel)
  · replace hg := (if_pos hc).symm.trans hg
    refine rf_seg C [(.iconst (-1), 1)] (pc' := 8) (S' := ([(0, .ref (a0 + 1000000)), (1, .int a1), (2, .int a2), (3, .int a3)], [.int ((-1))], rf_MM w m1)) (by decide +kernel) rfl trivial ?_
    obtain rfl := Option.some.inj hg
    exact rf_iret C hE (by decide +kernel)
-- J0_indexOf_7cf53
abbrev j_J0_indexOf_7cf53 : rf_J := (24, yJ0_indexOf_7cf53, cJ0_indexOf_7cf53, 3, (some .int))
theorem mw_J0_indexOf_7cf53 : rf_mv j_J0_indexOf_7cf53 (rf_own 24) 2 := ⟨⟨rf_mem 38 (by decide +kernel), rf_mem 38 (by decide +kernel), rf_mem 38 (by decide +kernel), rf_mem 38 (by decide +kernel)⟩, by decide +kernel, by decide⟩
def g_J0_indexOf_7cf53 (w : rf_w) (m : rf_m) (a0 : Nat) (a1 : Int32) (a2 : Int32) : Option (Int32 × rf_m) := rf_g (rf_isS a0) (rf_b (g_J0_isLatin1_aae02 w m a0) fun y1 m1 => (if y1 = 0 then rf_b (g_J0_length_8abf5 w m1 a0) fun y2 m2 => none else rf_b (g_J0_length_8abf5 w m1 a0) fun y3 m3 => rf_b (g_J1_indexOf_4cfef w m3 a0 a1 a2 y3) fun y4 m4 => some (y4, m4)))
theorem c_J0_indexOf_7cf53 {w : rf_w} {m : rf_m} {a0 : Nat} {a1 : Int32} {a2 : Int32} {r : Int32 × rf_m} (hg : g_J0_indexOf_7cf53 w m a0 a1 a2 = some r) : rf_Con j_J0_indexOf_7cf53 3 (rf_sh w) [.ref a0, .int a1, .int a2] (rf_MM w m) (some (.int r.1)) (rf_MM w r.2) := by
  refine rf_con j_J0_indexOf_7cf53 3 ⟨by decide +kernel, rfl, Nat.le_of_ble_eq_true rfl⟩ (fun K C hE => ?_)
  unfold g_J0_indexOf_7cf53 at hg
  show rf_V 3 (rf_sh w) K 0 0 0 ([(0, .ref a0), (1, .int a1), (2, .int a2)], [], rf_MM w m)
  obtain ⟨q0, hg⟩ := rf_g_some hg
  refine rf_seg C [(.aload 0, 1)] (pc' := 1) (S' := ([(0, .ref a0), (1, .int a1), (2, .int a2)], [.ref a0], rf_MM w m)) (by decide +kernel) rfl trivial ?_
  obtain ⟨y1, m1, hc1, hg⟩ := rf_b_some hg
  refine rf_callz C rf_fit0 j_J0_isLatin1_aae02 (As := []) (rest := []) mw_J0_isLatin1_aae02 (c_J0_isLatin1_aae02 hc1) (by decide) q0 lk_24_492 rfl rfl (Nat.le_of_ble_eq_true rfl) (by decide +kernel) ?_
  show rf_V 3 (rf_sh w) K 0 0 4 ([(0, .ref a0), (1, .int a1), (2, .int a2)], [.int y1], rf_MM w m1)
  refine rf_if_eq C 19 23 (by decide +kernel) (fun hc => ?_) (fun hc => ?_)
  · replace hg := (if_pos hc).symm.trans hg
    refine rf_seg C [(.aload 0, 1)] (pc' := 24) (S' := ([(0, .ref a0), (1, .int a1), (2, .int a2)], [.ref a0], rf_MM w m1)) (by decide +kernel) rfl trivial ?_
    refine rf_s_val C (idx := 9) q0 (rf_mem 38 (by decide +kernel)) (by decide +kernel) ?_
    show rf_V 3 (rf_sh w) K 0 0 27 ([(0, .ref a0), (1, .int a1), (2, .int a2)], [.ref (a0 + 1000000)], rf_MM w m1)
    refine rf_seg C [(.iload 1, 1), (.iload 2, 1), (.aload 0, 1)] (pc' := 30) (S' := ([(0, .ref a0), (1, .int a1), (2, .int a2)], [.ref a0, .int a2, .int a1, .ref (a0 + 1000000)], rf_MM w m1)) (by decide +kernel) rfl trivial ?_
    obtain ⟨y2, m2, hc2, hg⟩ := rf_b_some hg
    refine rf_callz C rf_fit0 j_J0_length_8abf5 (As := []) (rest := [.int a2, .int a1, .ref (a0 + 1000000)]) mw_J0_length_8abf5 (c_J0_length_8abf5 hc2) (by decide) q0 lk_24_505 rfl rfl (Nat.le_of_ble_eq_true rfl) (by decide +kernel) ?_
    show rf_V 3 (rf_sh w) K 0 0 33 ([(0, .ref a0), (1, .int a1), (2, .int a2)], [.int y2, .int a2, .int a1, .ref (a0 + 1000000)], rf_MM w m2)
    exact absurd hg (by simp)
  · replace hg := (if_neg hc).symm.trans hg
    refine rf_seg C [(.aload 0, 1)] (pc' := 8) (S' := ([(0, .ref a0), (1, .int a1), (2, .int a2)], [.ref a0], rf_MM w m1)) (by decide +kernel) rfl trivial ?_
    refine rf_s_val C (idx := 9) q0 (rf_mem 38 (by decide +kernel)) (by decide +kernel) ?_
    show rf_V 3 (rf_sh w) K 0 0 11 ([(0, .ref a0), (1, .int a1), (2, .int a2)], [.ref (a0 + 1000000)], rf_MM w m1)
    refine rf_seg C [(.iload 1, 1), (.iload 2, 1), (.aload 0, 1)] (pc' := 14) (S' := ([(0, .ref a0), (1, .int a1), (2, .int a2)], [.ref a0, .int a2, .int a1, .ref (a0 + 1000000)], rf_MM w m1)) (by decide +kernel) rfl trivial ?_
    obtain ⟨y3, m3, hc3, hg⟩ := rf_b_some hg
    refine rf_callz C rf_fit0 j_J0_length_8abf5 (As := []) (rest := [.int a2, .int a1, .ref (a0 + 1000000)]) mw_J0_length_8abf5 (c_J0_length_8abf5 hc3) (by decide) q0 lk_24_505 rfl rfl (Nat.le_of_ble_eq_true rfl) (by decide +kernel) ?_
    show rf_V 3 (rf_sh w) K 0 0 17 ([(0, .ref a0), (1, .int a1), (2, .int a2)], [.int y3, .int a2, .int a1, .ref (a0 + 1000000)], rf_MM w m3)
    obtain ⟨y4, m4, hc4, hg⟩ := rf_b_some hg
    refine rf_calls C rf_fit0 j_J1_indexOf_4cfef (As := [.ref (a0 + 1000000), .int a1, .int a2, .int y3]) (rest := []) mw_J1_indexOf_4cfef (c_J1_indexOf_4cfef hc4) (by decide) lk_24_637 rfl rfl (Nat.le_of_ble_eq_true rfl) (by decide +kernel) ?_
    show rf_V 3 (rf_sh w) K 0 0 20 ([(0, .ref a0), (1, .int a1), (2, .int a2)], [.int y4], rf_MM w m4)
    refine rf_goto C 16 36 (by decide +kernel) ?_
    obtain rfl := Option.some.inj hg
    exact rf_iret C hE (by decide +kernel)
-- J0_indexOf_0f7a4
abbrev j_J0_indexOf_0f7a4 : rf_J := (24, yJ0_indexOf_0f7a4, cJ0_indexOf_0f7a4, 2, (some .int))
theorem mw_J0_indexOf_0f7a4 : rf_mv j_J0_indexOf_0f7a4 (rf_own 24) 1 := ⟨⟨rf_mem 38 (by decide +kernel), rf_mem 38 (by decide +kernel), rf_mem 38 (by decide +kernel), rf_mem 38 (by decide +kernel)⟩, by decide +kernel, by decide⟩
def g_J0_indexOf_0f7a4 (w : rf_w) (m : rf_m) (a0 : Nat) (a1 : Int32) : Option (Int32 × rf_m) := rf_g (rf_isS a0) (rf_b (g_J0_indexOf_7cf53 w m a0 a1 0) fun y1 m1 => some (y1, m1))
theorem c_J0_indexOf_0f7a4 {w : rf_w} {m : rf_m} {a0 : Nat} {a1 : Int32} {r : Int32 × rf_m} (hg : g_J0_indexOf_0f7a4 w m a0 a1 = some r) : rf_Con j_J0_indexOf_0f7a4 4 (rf_sh w) [.ref a0, .int a1] (rf_MM w m) (some (.int r.1)) (rf_MM w r.2) := by
  refine rf_con j_J0_indexOf_0f7a4 4 ⟨by decide +kernel, rfl, Nat.le_of_ble_eq_true rfl⟩ (fun K C hE => ?_)
  unfold g_J0_indexOf_0f7a4 at hg
  show rf_V 2 (rf_sh w) K 0 0 0 ([(0, .ref a0), (1, .int a1)], [], rf_MM w m)
  obtain ⟨q0, hg⟩ := rf_g_some hg
  refine rf_seg C [(.aload 0, 1), (.iload 1, 1), (.iconst 0, 1)] (pc' := 3) (S' := ([(0, .ref a0), (1, .int a1)], [.int 0, .int a1, .ref a0], rf_MM w m)) (by decide +kernel) rfl trivial ?_
  obtain ⟨y1, m1, hc1, hg⟩ := rf_b_some hg
  refine rf_callz C rf_fit0 j_J0_indexOf_7cf53 (As := [.int a1, .int 0]) (rest := []) mw_J0_indexOf_7cf53 (c_J0_indexOf_7cf53 hc1) (by decide) q0 lk_24_633 rfl rfl (Nat.le_of_ble_eq_true rfl) (by decide +kernel) ?_
  show rf_V 2 (rf_sh w) K 0 0 6 ([(0, .ref a0), (1, .int a1)], [.int y1], rf_MM w m1)
  obtain rfl := Option.some.inj hg
  exact rf_iret C hE (by decide +kernel)
