/-! methods as functions, and their contracts (written by wip/tool/gen.py) -/
-- X14_determinant__260
abbrev j_X14_determinant__260 : rf_J := (14, yX14_determinant, cX14_determinant, 10, none)
theorem mw_X14_determinant__260 : rf_mv j_X14_determinant__260 (rf_R 14) 4 := ⟨⟨rf_mem 71 (by decide +kernel), rf_mem 71 (by decide +kernel), rf_mem 0 (by decide +kernel), rf_mem 71 (by decide +kernel)⟩, by decide +kernel, by decide⟩
def g_X14_determinant__260_172 (w : rf_w) (rec12 : Int32 → Int32 → Int32 → Int32 → rf_m → Option (rf_m)) (rec45 : Int32 → Int32 → Int32 → Int32 → Int32 → Int32 → rf_m → Option (rf_m)) (a1 : Int32) (a2 : Int32) (a4 : Int32) (a5 : Int32) (a6 : Int32) (a7 : Int32) (m : rf_m) : Option (rf_m) := rec45 a1 a2 a4 a5 a6 (a7 + 1) m
def g_X14_determinant__260_152 (w : rf_w) (rec12 : Int32 → Int32 → Int32 → Int32 → rf_m → Option (rf_m)) (rec45 : Int32 → Int32 → Int32 → Int32 → Int32 → Int32 → rf_m → Option (rf_m)) (a1 : Int32) (a2 : Int32) (a4 : Int32) (a5 : Int32) (a6 : Int32) (a7 : Int32) (s1 : Int32) (s3 : Int32) (s4 : Int32) (m : rf_m) : Option (rf_m) := rf_bv (g_X14_times__257_256 w m s1 s3 s4) fun m0 => rf_bv (g_X14_adds__256_257 w m0 (6 * a5) 0) fun m1 => g_X14_determinant__260_172 w rec12 rec45 a1 a2 a4 a5 a6 a7 m1
def g_X14_determinant__260_116 (w : rf_w) (rec12 : Int32 → Int32 → Int32 → Int32 → rf_m → Option (rf_m)) (rec45 : Int32 → Int32 → Int32 → Int32 → Int32 → Int32 → rf_m → Option (rf_m)) (a1 : Int32) (a2 : Int32) (a4 : Int32) (a5 : Int32) (a6 : Int32) (a7 : Int32) (a8 : Int32) (s0 : Int32) (m : rf_m) : Option (rf_m) := (if s0 = 0 then g_X14_determinant__260_152 w rec12 rec45 a1 a2 a4 a5 a6 a7 0 (6 * (a5 &&& (((1 : Int32) <<< (a7 &&& 31)) ^^^ ((-1))))) a8 m else g_X14_determinant__260_152 w rec12 rec45 a1 a2 a4 a5 a6 a7 0 (6 * (a5 &&& (((1 : Int32) <<< (a7 &&& 31)) ^^^ ((-1))))) (-a8) m)
def g_X14_determinant__260_93 (w : rf_w) (rec12 : Int32 → Int32 → Int32 → Int32 → rf_m → Option (rf_m)) (rec45 : Int32 → Int32 → Int32 → Int32 → Int32 → Int32 → rf_m → Option (rf_m)) (a1 : Int32) (a2 : Int32) (a4 : Int32) (a5 : Int32) (a6 : Int32) (a7 : Int32) (s0 : Int32) (m : rf_m) : Option (rf_m) := rf_b (g_X14_bits w m (a5 >>> ((a7 + 1) &&& 31))) fun y0 m0 => (if (y0 &&& 1) = 1 then g_X14_determinant__260_116 w rec12 rec45 a1 a2 a4 a5 a6 a7 s0 1 m0 else g_X14_determinant__260_116 w rec12 rec45 a1 a2 a4 a5 a6 a7 s0 0 m0)
def g_X14_determinant__260_45_b (w : rf_w) (rec12 : Int32 → Int32 → Int32 → Int32 → rf_m → Option (rf_m)) (rec45 : Int32 → Int32 → Int32 → Int32 → Int32 → Int32 → rf_m → Option (rf_m)) (a1 : Int32) (a2 : Int32) (a4 : Int32) (a5 : Int32) (a6 : Int32) (a7 : Int32) (m : rf_m) : Option (rf_m) := (if a1 ≤ a7 then rec12 a1 a2 a4 (a5 + 1) m else (if ((a5 >>> (a7 &&& 31)) &&& 1) = 0 then g_X14_determinant__260_172 w rec12 rec45 a1 a2 a4 a5 a6 a7 m else (if a7 = a2 then rf_g (rf_in a6 6) (g_X14_determinant__260_93 w rec12 rec45 a1 a2 a4 a5 a6 a7 (m.1 255 (Int32.toNatClampNeg a6)) m) else rf_g (rf_in ((6 * a6) + a7) 36) (g_X14_determinant__260_93 w rec12 rec45 a1 a2 a4 a5 a6 a7 (m.1 254 (Int32.toNatClampNeg ((6 * a6) + a7))) m))))
def g_X14_determinant__260_45 (w : rf_w) (rec12 : Int32 → Int32 → Int32 → Int32 → rf_m → Option (rf_m)) : Nat → Int32 → Int32 → Int32 → Int32 → Int32 → Int32 → rf_m → Option (rf_m)
  | 0, _, _, _, _, _, _, _ => none
  | n + 1, a1, a2, a4, a5, a6, a7, m => g_X14_determinant__260_45_b w rec12 (g_X14_determinant__260_45 w rec12 n) a1 a2 a4 a5 a6 a7 m
def g_X14_determinant__260_12_b (w : rf_w) (rec12 : Int32 → Int32 → Int32 → Int32 → rf_m → Option (rf_m)) (a1 : Int32) (a2 : Int32) (a4 : Int32) (a5 : Int32) (m : rf_m) : Option (rf_m) := (if ((1 : Int32) <<< (a1 &&& 31)) ≤ a5 then rf_bv (g_X14_copies__260_256 w m a4 (6 * (((1 : Int32) <<< (a1 &&& 31)) - 1))) fun m0 => some m0 else rf_bv (g_X14_set__256 w m (6 * a5) 0) fun m1 => rf_b (g_X14_bits w m1 a5) fun y2 m2 => g_X14_determinant__260_45 w rec12 rf_fuel a1 a2 a4 a5 (y2 - 1) 0 m2)
def g_X14_determinant__260_12 (w : rf_w) : Nat → Int32 → Int32 → Int32 → Int32 → rf_m → Option (rf_m)
  | 0, _, _, _, _, _ => none
  | n + 1, a1, a2, a4, a5, m => g_X14_determinant__260_12_b w (g_X14_determinant__260_12 w n) a1 a2 a4 a5 m
def g_X14_determinant__260 (w : rf_w) (m : rf_m) (a1 : Int32) (a2 : Int32) (a4 : Int32) : Option (rf_m) := rf_bv (g_X14_set__256 w m 0 1) fun m0 => g_X14_determinant__260_12 w rf_fuel a1 a2 a4 1 m0
theorem s_X14_determinant__260_172 {w : rf_w} {K : rf_K} {r : rf_m} (C : rf_Ctx 14 cX14_determinant 10 3 (rf_sh w) K) (hE : rf_End none K (rf_sh w) 0 0 none (rf_MM w r)) {rec12 : Int32 → Int32 → Int32 → Int32 → rf_m → Option (rf_m)} {rec45 : Int32 → Int32 → Int32 → Int32 → Int32 → Int32 → rf_m → Option (rf_m)} (hr12 : ∀ (a1 : Int32) (a2 : Int32) (a4 : Int32) (a5 : Int32) (m : rf_m), rec12 a1 a2 a4 a5 m = some r → rf_V 10 (rf_sh w) K 0 0 12 ([(0, .ref 206), (1, .int a1), (2, .int a2), (3, .ref 260), (4, .int a4), (5, .int a5)], [], rf_MM w m)) (hr45 : ∀ (a1 : Int32) (a2 : Int32) (a4 : Int32) (a5 : Int32) (a6 : Int32) (a7 : Int32) (m : rf_m), rec45 a1 a2 a4 a5 a6 a7 m = some r → rf_V 10 (rf_sh w) K 0 0 45 ([(0, .ref 206), (1, .int a1), (2, .int a2), (3, .ref 260), (4, .int a4), (5, .int a5), (6, .int a6), (7, .int a7)], [], rf_MM w m)) (a1 : Int32) (a2 : Int32) (a4 : Int32) (a5 : Int32) (a6 : Int32) (a7 : Int32) (m : rf_m) (hg : g_X14_determinant__260_172 w rec12 rec45 a1 a2 a4 a5 a6 a7 m = some r) : rf_V 10 (rf_sh w) K 0 0 172 ([(0, .ref 206), (1, .int a1), (2, .int a2), (3, .ref 260), (4, .int a4), (5, .int a5), (6, .int a6), (7, .int a7)], [], rf_MM w m) := by
  unfold g_X14_determinant__260_172 at hg
  refine rf_seg C [(.iinc 7 1, 3)] (pc' := 175) (S' := ([(7, .int (a7 + 1)), (0, .ref 206), (1, .int a1), (2, .int a2), (3, .ref 260), (4, .int a4), (5, .int a5), (6, .int a6)], [], rf_MM w m)) (by decide +kernel) rfl trivial ?_
  refine rf_goto C (-130) 45 (by decide +kernel) ?_
  refine rf_few [1, 2, 3, 4, 5, 6, 7, 0] rfl ?_
  exact hr45 a1 a2 a4 a5 a6 (a7 + 1) m hg
theorem s_X14_determinant__260_152 {w : rf_w} {K : rf_K} {r : rf_m} (C : rf_Ctx 14 cX14_determinant 10 3 (rf_sh w) K) (hE : rf_End none K (rf_sh w) 0 0 none (rf_MM w r)) {rec12 : Int32 → Int32 → Int32 → Int32 → rf_m → Option (rf_m)} {rec45 : Int32 → Int32 → Int32 → Int32 → Int32 → Int32 → rf_m → Option (rf_m)} (hr12 : ∀ (a1 : Int32) (a2 : Int32) (a4 : Int32) (a5 : Int32) (m : rf_m), rec12 a1 a2 a4 a5 m = some r → rf_V 10 (rf_sh w) K 0 0 12 ([(0, .ref 206), (1, .int a1), (2, .int a2), (3, .ref 260), (4, .int a4), (5, .int a5)], [], rf_MM w m)) (hr45 : ∀ (a1 : Int32) (a2 : Int32) (a4 : Int32) (a5 : Int32) (a6 : Int32) (a7 : Int32) (m : rf_m), rec45 a1 a2 a4 a5 a6 a7 m = some r → rf_V 10 (rf_sh w) K 0 0 45 ([(0, .ref 206), (1, .int a1), (2, .int a2), (3, .ref 260), (4, .int a4), (5, .int a5), (6, .int a6), (7, .int a7)], [], rf_MM w m)) (a1 : Int32) (a2 : Int32) (a4 : Int32) (a5 : Int32) (a6 : Int32) (a7 : Int32) (s1 : Int32) (s3 : Int32) (s4 : Int32) (m : rf_m) (hg : g_X14_determinant__260_152 w rec12 rec45 a1 a2 a4 a5 a6 a7 s1 s3 s4 m = some r) : rf_V 10 (rf_sh w) K 0 0 152 ([(0, .ref 206), (1, .int a1), (2, .int a2), (3, .ref 260), (4, .int a4), (5, .int a5), (6, .int a6), (7, .int a7)], [.int s4, .int s3, .ref 256, .int s1, .ref 257], rf_MM w m) := by
  unfold g_X14_determinant__260_152 at hg
  obtain ⟨m0, hc0, hg⟩ := rf_bv_some hg
  refine rf_calls C rf_fit0 j_X14_times__257_256 (As := [.ref 257, .int s1, .ref 256, .int s3, .int s4]) (rest := []) mw_X14_times__257_256 (c_X14_times__257_256 hc0) (by decide) lk_14_770 rfl rfl (Nat.le_of_ble_eq_true rfl) (by decide +kernel) ?_
  show rf_V 10 (rf_sh w) K 0 0 155 ([(0, .ref 206), (1, .int a1), (2, .int a2), (3, .ref 260), (4, .int a4), (5, .int a5), (6, .int a6), (7, .int a7)], [], rf_MM w m0)
  refine rf_seg C [(.aload 0, 1), (.invokeinterface 14 79, 3), (.iconst 6, 2), (.iload 5, 2), (.imul, 1), (.aload 0, 1), (.invokeinterface 14 80, 3), (.iconst 0, 1)] (pc' := 169) (S' := ([(0, .ref 206), (1, .int a1), (2, .int a2), (3, .ref 260), (4, .int a4), (5, .int a5), (6, .int a6), (7, .int a7)], [.int 0, .ref 257, .int (6 * a5), .ref 256], rf_MM w m0)) (by decide +kernel) rfl trivial ?_
  obtain ⟨m1, hc1, hg⟩ := rf_bv_some hg
  refine rf_calls C rf_fit0 j_X14_adds__256_257 (As := [.ref 256, .int (6 * a5), .ref 257, .int 0]) (rest := []) mw_X14_adds__256_257 (c_X14_adds__256_257 hc1) (by decide) lk_14_748 rfl rfl (Nat.le_of_ble_eq_true rfl) (by decide +kernel) ?_
  show rf_V 10 (rf_sh w) K 0 0 172 ([(0, .ref 206), (1, .int a1), (2, .int a2), (3, .ref 260), (4, .int a4), (5, .int a5), (6, .int a6), (7, .int a7)], [], rf_MM w m1)
  refine rf_few [0, 1, 2, 3, 4, 5, 6, 7] rfl ?_
  exact s_X14_determinant__260_172 C hE hr12 hr45 a1 a2 a4 a5 a6 a7 m1 hg
theorem s_X14_determinant__260_116 {w : rf_w} {K : rf_K} {r : rf_m} (C : rf_Ctx 14 cX14_determinant 10 3 (rf_sh w) K) (hE : rf_End none K (rf_sh w) 0 0 none (rf_MM w r)) {rec12 : Int32 → Int32 → Int32 → Int32 → rf_m → Option (rf_m)} {rec45 : Int32 → Int32 → Int32 → Int32 → Int32 → Int32 → rf_m → Option (rf_m)} (hr12 : ∀ (a1 : Int32) (a2 : Int32) (a4 : Int32) (a5 : Int32) (m : rf_m), rec12 a1 a2 a4 a5 m = some r → rf_V 10 (rf_sh w) K 0 0 12 ([(0, .ref 206), (1, .int a1), (2, .int a2), (3, .ref 260), (4, .int a4), (5, .int a5)], [], rf_MM w m)) (hr45 : ∀ (a1 : Int32) (a2 : Int32) (a4 : Int32) (a5 : Int32) (a6 : Int32) (a7 : Int32) (m : rf_m), rec45 a1 a2 a4 a5 a6 a7 m = some r → rf_V 10 (rf_sh w) K 0 0 45 ([(0, .ref 206), (1, .int a1), (2, .int a2), (3, .ref 260), (4, .int a4), (5, .int a5), (6, .int a6), (7, .int a7)], [], rf_MM w m)) (a1 : Int32) (a2 : Int32) (a4 : Int32) (a5 : Int32) (a6 : Int32) (a7 : Int32) (a8 : Int32) (s0 : Int32) (m : rf_m) (hg : g_X14_determinant__260_116 w rec12 rec45 a1 a2 a4 a5 a6 a7 a8 s0 m = some r) : rf_V 10 (rf_sh w) K 0 0 116 ([(0, .ref 206), (1, .int a1), (2, .int a2), (3, .ref 260), (4, .int a4), (5, .int a5), (6, .int a6), (7, .int a7), (8, .int a8)], [.int s0], rf_MM w m) := by
  unfold g_X14_determinant__260_116 at hg
  refine rf_seg C [(.istore 9, 2), (.aload 0, 1), (.invokeinterface 14 80, 3), (.iconst 0, 1), (.aload 0, 1), (.invokeinterface 14 79, 3), (.iconst 6, 2), (.iload 5, 2), (.iconst 1, 1), (.iload 7, 2), (.ishl, 1), (.iconst (-1), 1), (.ixor, 1), (.iand, 1), (.imul, 1), (.iload 9, 2)] (pc' := 141) (S' := ([(9, .int s0), (0, .ref 206), (1, .int a1), (2, .int a2), (3, .ref 260), (4, .int a4), (5, .int a5), (6, .int a6), (7, .int a7), (8, .int a8)], [.int s0, .int (6 * (a5 &&& (((1 : Int32) <<< (a7 &&& 31)) ^^^ ((-1))))), .ref 256, .int 0, .ref 257], rf_MM w m)) (by decide +kernel) rfl trivial ?_
  refine rf_if_eq C 9 150 (by decide +kernel) (fun hc => ?_) (fun hc => ?_)
  · replace hg := (if_pos hc).symm.trans hg
    refine rf_seg C [(.iload 8, 2)] (pc' := 152) (S' := ([(9, .int s0), (0, .ref 206), (1, .int a1), (2, .int a2), (3, .ref 260), (4, .int a4), (5, .int a5), (6, .int a6), (7, .int a7), (8, .int a8)], [.int a8, .int (6 * (a5 &&& (((1 : Int32) <<< (a7 &&& 31)) ^^^ ((-1))))), .ref 256, .int 0, .ref 257], rf_MM w m)) (by decide +kernel) rfl trivial ?_
    refine rf_few [1, 2, 3, 4, 5, 6, 7, 8] rfl ?_
    exact s_X14_determinant__260_152 C hE hr12 hr45 a1 a2 a4 a5 a6 a7 0 (6 * (a5 &&& (((1 : Int32) <<< (a7 &&& 31)) ^^^ ((-1))))) a8 m hg
  · replace hg := (if_neg hc).symm.trans hg
    refine rf_seg C [(.iload 8, 2), (.ineg, 1)] (pc' := 147) (S' := ([(9, .int s0), (0, .ref 206), (1, .int a1), (2, .int a2), (3, .ref 260), (4, .int a4), (5, .int a5), (6, .int a6), (7, .int a7), (8, .int a8)], [.int (-a8), .int (6 * (a5 &&& (((1 : Int32) <<< (a7 &&& 31)) ^^^ ((-1))))), .ref 256, .int 0, .ref 257], rf_MM w m)) (by decide +kernel) rfl trivial ?_
    refine rf_goto C 5 152 (by decide +kernel) ?_
    refine rf_few [1, 2, 3, 4, 5, 6, 7, 8] rfl ?_
    exact s_X14_determinant__260_152 C hE hr12 hr45 a1 a2 a4 a5 a6 a7 0 (6 * (a5 &&& (((1 : Int32) <<< (a7 &&& 31)) ^^^ ((-1))))) (-a8) m hg
theorem s_X14_determinant__260_93 {w : rf_w} {K : rf_K} {r : rf_m} (C : rf_Ctx 14 cX14_determinant 10 3 (rf_sh w) K) (hE : rf_End none K (rf_sh w) 0 0 none (rf_MM w r)) {rec12 : Int32 → Int32 → Int32 → Int32 → rf_m → Option (rf_m)} {rec45 : Int32 → Int32 → Int32 → Int32 → Int32 → Int32 → rf_m → Option (rf_m)} (hr12 : ∀ (a1 : Int32) (a2 : Int32) (a4 : Int32) (a5 : Int32) (m : rf_m), rec12 a1 a2 a4 a5 m = some r → rf_V 10 (rf_sh w) K 0 0 12 ([(0, .ref 206), (1, .int a1), (2, .int a2), (3, .ref 260), (4, .int a4), (5, .int a5)], [], rf_MM w m)) (hr45 : ∀ (a1 : Int32) (a2 : Int32) (a4 : Int32) (a5 : Int32) (a6 : Int32) (a7 : Int32) (m : rf_m), rec45 a1 a2 a4 a5 a6 a7 m = some r → rf_V 10 (rf_sh w) K 0 0 45 ([(0, .ref 206), (1, .int a1), (2, .int a2), (3, .ref 260), (4, .int a4), (5, .int a5), (6, .int a6), (7, .int a7)], [], rf_MM w m)) (a1 : Int32) (a2 : Int32) (a4 : Int32) (a5 : Int32) (a6 : Int32) (a7 : Int32) (s0 : Int32) (m : rf_m) (hg : g_X14_determinant__260_93 w rec12 rec45 a1 a2 a4 a5 a6 a7 s0 m = some r) : rf_V 10 (rf_sh w) K 0 0 93 ([(0, .ref 206), (1, .int a1), (2, .int a2), (3, .ref 260), (4, .int a4), (5, .int a5), (6, .int a6), (7, .int a7)], [.int s0], rf_MM w m) := by
  unfold g_X14_determinant__260_93 at hg
  refine rf_seg C [(.istore 8, 2), (.iload 5, 2), (.iload 7, 2), (.iconst 1, 1), (.iadd, 1), (.ishr, 1)] (pc' := 102) (S' := ([(8, .int s0), (0, .ref 206), (1, .int a1), (2, .int a2), (3, .ref 260), (4, .int a4), (5, .int a5), (6, .int a6), (7, .int a7)], [.int (a5 >>> ((a7 + 1) &&& 31))], rf_MM w m)) (by decide +kernel) rfl trivial ?_
  obtain ⟨y0, m0, hc0, hg⟩ := rf_b_some hg
  refine rf_calls C rf_fit0 j_X14_bits (As := [.int (a5 >>> ((a7 + 1) &&& 31))]) (rest := []) mw_X14_bits (c_X14_bits hc0) (by decide) lk_14_767 rfl rfl (Nat.le_of_ble_eq_true rfl) (by decide +kernel) ?_
  show rf_V 10 (rf_sh w) K 0 0 105 ([(8, .int s0), (0, .ref 206), (1, .int a1), (2, .int a2), (3, .ref 260), (4, .int a4), (5, .int a5), (6, .int a6), (7, .int a7)], [.int y0], rf_MM w m0)
  refine rf_seg C [(.iconst 1, 1), (.iand, 1), (.iconst 1, 1)] (pc' := 108) (S' := ([(8, .int s0), (0, .ref 206), (1, .int a1), (2, .int a2), (3, .ref 260), (4, .int a4), (5, .int a5), (6, .int a6), (7, .int a7)], [.int 1, .int (y0 &&& 1)], rf_MM w m0)) (by decide +kernel) rfl trivial ?_
  refine rf_icmp_ne C 7 115 (by decide +kernel) (fun hc => ?_) (fun hc => ?_)
  · replace hg := (if_neg hc).symm.trans hg
    refine rf_seg C [(.iconst 0, 1)] (pc' := 116) (S' := ([(8, .int s0), (0, .ref 206), (1, .int a1), (2, .int a2), (3, .ref 260), (4, .int a4), (5, .int a5), (6, .int a6), (7, .int a7)], [.int 0], rf_MM w m0)) (by decide +kernel) rfl trivial ?_
    refine rf_few [1, 2, 3, 4, 5, 6, 7, 8, 0] rfl ?_
    exact s_X14_determinant__260_116 C hE hr12 hr45 a1 a2 a4 a5 a6 a7 s0 0 m0 hg
  · replace hg := (if_pos hc).symm.trans hg
    refine rf_seg C [(.iconst 1, 1)] (pc' := 112) (S' := ([(8, .int s0), (0, .ref 206), (1, .int a1), (2, .int a2), (3, .ref 260), (4, .int a4), (5, .int a5), (6, .int a6), (7, .int a7)], [.int 1], rf_MM w m0)) (by decide +kernel) rfl trivial ?_
    refine rf_goto C 4 116 (by decide +kernel) ?_
    refine rf_few [1, 2, 3, 4, 5, 6, 7, 8, 0] rfl ?_
    exact s_X14_determinant__260_116 C hE hr12 hr45 a1 a2 a4 a5 a6 a7 s0 1 m0 hg
theorem s_X14_determinant__260_45_b {w : rf_w} {K : rf_K} {r : rf_m} (C : rf_Ctx 14 cX14_determinant 10 3 (rf_sh w) K) (hE : rf_End none K (rf_sh w) 0 0 none (rf_MM w r)) {rec12 : Int32 → Int32 → Int32 → Int32 → rf_m → Option (rf_m)} {rec45 : Int32 → Int32 → Int32 → Int32 → Int32 → Int32 → rf_m → Option (rf_m)} (hr12 : ∀ (a1 : Int32) (a2 : Int32) (a4 : Int32) (a5 : Int32) (m : rf_m), rec12 a1 a2 a4 a5 m = some r → rf_V 10 (rf_sh w) K 0 0 12 ([(0, .ref 206), (1, .int a1), (2, .int a2), (3, .ref 260), (4, .int a4), (5, .int a5)], [], rf_MM w m)) (hr45 : ∀ (a1 : Int32) (a2 : Int32) (a4 : Int32) (a5 : Int32) (a6 : Int32) (a7 : Int32) (m : rf_m), rec45 a1 a2 a4 a5 a6 a7 m = some r → rf_V 10 (rf_sh w) K 0 0 45 ([(0, .ref 206), (1, .int a1), (2, .int a2), (3, .ref 260), (4, .int a4), (5, .int a5), (6, .int a6), (7, .int a7)], [], rf_MM w m)) (a1 : Int32) (a2 : Int32) (a4 : Int32) (a5 : Int32) (a6 : Int32) (a7 : Int32) (m : rf_m) (hg : g_X14_determinant__260_45_b w rec12 rec45 a1 a2 a4 a5 a6 a7 m = some r) : rf_V 10 (rf_sh w) K 0 0 45 ([(0, .ref 206), (1, .int a1), (2, .int a2), (3, .ref 260), (4, .int a4), (5, .int a5), (6, .int a6), (7, .int a7)], [], rf_MM w m) := by
  unfold g_X14_determinant__260_45_b at hg
  refine rf_seg C [(.iload 7, 2), (.iload 1, 1)] (pc' := 48) (S' := ([(0, .ref 206), (1, .int a1), (2, .int a2), (3, .ref 260), (4, .int a4), (5, .int a5), (6, .int a6), (7, .int a7)], [.int a1, .int a7], rf_MM w m)) (by decide +kernel) rfl trivial ?_
  refine rf_icmp_ge C 130 178 (by decide +kernel) (fun hc => ?_) (fun hc => ?_)
  · replace hg := (if_pos hc).symm.trans hg
    refine rf_seg C [(.iinc 5 1, 3)] (pc' := 181) (S' := ([(5, .int (a5 + 1)), (0, .ref 206), (1, .int a1), (2, .int a2), (3, .ref 260), (4, .int a4), (6, .int a6), (7, .int a7)], [], rf_MM w m)) (by decide +kernel) rfl trivial ?_
    refine rf_goto C (-169) 12 (by decide +kernel) ?_
    refine rf_few [1, 2, 3, 4, 5, 0] rfl ?_
    exact hr12 a1 a2 a4 (a5 + 1) m hg
  · replace hg := (if_neg hc).symm.trans hg
    refine rf_seg C [(.iload 5, 2), (.iload 7, 2), (.ishr, 1), (.iconst 1, 1), (.iand, 1)] (pc' := 58) (S' := ([(0, .ref 206), (1, .int a1), (2, .int a2), (3, .ref 260), (4, .int a4), (5, .int a5), (6, .int a6), (7, .int a7)], [.int ((a5 >>> (a7 &&& 31)) &&& 1)], rf_MM w m)) (by decide +kernel) rfl trivial ?_
    refine rf_if_ne C 6 64 (by decide +kernel) (fun hc => ?_) (fun hc => ?_)
    · replace hg := (if_neg hc).symm.trans hg
      refine rf_seg C [(.iload 7, 2), (.iload 2, 1)] (pc' := 67) (S' := ([(0, .ref 206), (1, .int a1), (2, .int a2), (3, .ref 260), (4, .int a4), (5, .int a5), (6, .int a6), (7, .int a7)], [.int a2, .int a7], rf_MM w m)) (by decide +kernel) rfl trivial ?_
      refine rf_icmp_ne C 13 80 (by decide +kernel) (fun hc => ?_) (fun hc => ?_)
      · replace hg := (if_neg hc).symm.trans hg
        obtain ⟨q0, hg⟩ := rf_g_some hg
        refine rf_seg C [(.aload 0, 1), (.invokeinterface 14 77, 3), (.iconst 6, 2), (.iload 6, 2), (.imul, 1), (.iload 7, 2), (.iadd, 1), (.iaload, 1)] (pc' := 93) (S' := ([(0, .ref 206), (1, .int a1), (2, .int a2), (3, .ref 260), (4, .int a4), (5, .int a5), (6, .int a6), (7, .int a7)], [.int (m.1 254 (Int32.toNatClampNeg ((6 * a6) + a7)))], rf_MM w m)) (by decide +kernel) rfl (rf_in_of q0) ?_
        refine rf_few [0, 1, 2, 3, 4, 5, 6, 7] rfl ?_
        exact s_X14_determinant__260_93 C hE hr12 hr45 a1 a2 a4 a5 a6 a7 (m.1 254 (Int32.toNatClampNeg ((6 * a6) + a7))) m hg
      · replace hg := (if_pos hc).symm.trans hg
        obtain ⟨q1, hg⟩ := rf_g_some hg
        refine rf_seg C [(.aload 0, 1), (.invokeinterface 14 78, 3), (.iload 6, 2), (.iaload, 1)] (pc' := 77) (S' := ([(0, .ref 206), (1, .int a1), (2, .int a2), (3, .ref 260), (4, .int a4), (5, .int a5), (6, .int a6), (7, .int a7)], [.int (m.1 255 (Int32.toNatClampNeg a6))], rf_MM w m)) (by decide +kernel) rfl (rf_in_of q1) ?_
        refine rf_goto C 16 93 (by decide +kernel) ?_
        refine rf_few [0, 1, 2, 3, 4, 5, 6, 7] rfl ?_
        exact s_X14_determinant__260_93 C hE hr12 hr45 a1 a2 a4 a5 a6 a7 (m.1 255 (Int32.toNatClampNeg a6)) m hg
    · replace hg := (if_pos hc).symm.trans hg
      refine rf_goto C 111 172 (by decide +kernel) ?_
      refine rf_few [0, 1, 2, 3, 4, 5, 6, 7] rfl ?_
      exact s_X14_determinant__260_172 C hE hr12 hr45 a1 a2 a4 a5 a6 a7 m hg
theorem s_X14_determinant__260_45 {w : rf_w} {K : rf_K} {r : rf_m} (C : rf_Ctx 14 cX14_determinant 10 3 (rf_sh w) K) (hE : rf_End none K (rf_sh w) 0 0 none (rf_MM w r)) {rec12 : Int32 → Int32 → Int32 → Int32 → rf_m → Option (rf_m)} (hr12 : ∀ (a1 : Int32) (a2 : Int32) (a4 : Int32) (a5 : Int32) (m : rf_m), rec12 a1 a2 a4 a5 m = some r → rf_V 10 (rf_sh w) K 0 0 12 ([(0, .ref 206), (1, .int a1), (2, .int a2), (3, .ref 260), (4, .int a4), (5, .int a5)], [], rf_MM w m)) (n : Nat) : ∀ (a1 : Int32) (a2 : Int32) (a4 : Int32) (a5 : Int32) (a6 : Int32) (a7 : Int32) (m : rf_m), g_X14_determinant__260_45 w rec12 n a1 a2 a4 a5 a6 a7 m = some r → rf_V 10 (rf_sh w) K 0 0 45 ([(0, .ref 206), (1, .int a1), (2, .int a2), (3, .ref 260), (4, .int a4), (5, .int a5), (6, .int a6), (7, .int a7)], [], rf_MM w m) := by
  induction n with
  | zero => intro a1 a2 a4 a5 a6 a7 m hg; cases hg
  | succ n ih => intro a1 a2 a4 a5 a6 a7 m hg; exact s_X14_determinant__260_45_b C hE hr12 ih a1 a2 a4 a5 a6 a7 m hg
theorem s_X14_determinant__260_12_b {w : rf_w} {K : rf_K} {r : rf_m} (C : rf_Ctx 14 cX14_determinant 10 3 (rf_sh w) K) (hE : rf_End none K (rf_sh w) 0 0 none (rf_MM w r)) {rec12 : Int32 → Int32 → Int32 → Int32 → rf_m → Option (rf_m)} (hr12 : ∀ (a1 : Int32) (a2 : Int32) (a4 : Int32) (a5 : Int32) (m : rf_m), rec12 a1 a2 a4 a5 m = some r → rf_V 10 (rf_sh w) K 0 0 12 ([(0, .ref 206), (1, .int a1), (2, .int a2), (3, .ref 260), (4, .int a4), (5, .int a5)], [], rf_MM w m)) (a1 : Int32) (a2 : Int32) (a4 : Int32) (a5 : Int32) (m : rf_m) (hg : g_X14_determinant__260_12_b w rec12 a1 a2 a4 a5 m = some r) : rf_V 10 (rf_sh w) K 0 0 12 ([(0, .ref 206), (1, .int a1), (2, .int a2), (3, .ref 260), (4, .int a4), (5, .int a5)], [], rf_MM w m) := by
  unfold g_X14_determinant__260_12_b at hg
  refine rf_seg C [(.iload 5, 2), (.iconst 1, 1), (.iload 1, 1), (.ishl, 1)] (pc' := 17) (S' := ([(0, .ref 206), (1, .int a1), (2, .int a2), (3, .ref 260), (4, .int a4), (5, .int a5)], [.int ((1 : Int32) <<< (a1 &&& 31)), .int a5], rf_MM w m)) (by decide +kernel) rfl trivial ?_
  refine rf_icmp_ge C 167 184 (by decide +kernel) (fun hc => ?_) (fun hc => ?_)
  · replace hg := (if_pos hc).symm.trans hg
    refine rf_seg C [(.aload 3, 1), (.iload 4, 2), (.aload 0, 1), (.invokeinterface 14 79, 3), (.iconst 6, 2), (.iconst 1, 1), (.iload 1, 1), (.ishl, 1), (.iconst 1, 1), (.isub, 1), (.imul, 1)] (pc' := 199) (S' := ([(0, .ref 206), (1, .int a1), (2, .int a2), (3, .ref 260), (4, .int a4), (5, .int a5)], [.int (6 * (((1 : Int32) <<< (a1 &&& 31)) - 1)), .ref 256, .int a4, .ref 260], rf_MM w m)) (by decide +kernel) rfl trivial ?_
    obtain ⟨m0, hc0, hg⟩ := rf_bv_some hg
    refine rf_calls C rf_fit0 j_X14_copies__260_256 (As := [.ref 260, .int a4, .ref 256, .int (6 * (((1 : Int32) <<< (a1 &&& 31)) - 1))]) (rest := []) mw_X14_copies__260_256 (c_X14_copies__260_256 hc0) (by decide) lk_14_744 rfl rfl (Nat.le_of_ble_eq_true rfl) (by decide +kernel) ?_
    show rf_V 10 (rf_sh w) K 0 0 202 ([(0, .ref 206), (1, .int a1), (2, .int a2), (3, .ref 260), (4, .int a4), (5, .int a5)], [], rf_MM w m0)
    obtain rfl := Option.some.inj hg
    exact rf_vret C hE (by decide +kernel)
  · replace hg := (if_neg hc).symm.trans hg
    refine rf_seg C [(.aload 0, 1), (.invokeinterface 14 79, 3), (.iconst 6, 2), (.iload 5, 2), (.imul, 1), (.goto_w 0, 1)] (pc' := 30) (S' := ([(0, .ref 206), (1, .int a1), (2, .int a2), (3, .ref 260), (4, .int a4), (5, .int a5)], [.long 0, .int (6 * a5), .ref 256], rf_MM w m)) (by decide +kernel) rfl trivial ?_
    obtain ⟨m1, hc1, hg⟩ := rf_bv_some hg
    refine rf_calls C rf_fit0 j_X14_set__256 (As := [.ref 256, .int (6 * a5), .long 0]) (rest := []) mw_X14_set__256 (c_X14_set__256 hc1) (by decide) lk_14_740 rfl rfl (Nat.le_of_ble_eq_true rfl) (by decide +kernel) ?_
    show rf_V 10 (rf_sh w) K 0 0 33 ([(0, .ref 206), (1, .int a1), (2, .int a2), (3, .ref 260), (4, .int a4), (5, .int a5)], [], rf_MM w m1)
    refine rf_seg C [(.iload 5, 2)] (pc' := 35) (S' := ([(0, .ref 206), (1, .int a1), (2, .int a2), (3, .ref 260), (4, .int a4), (5, .int a5)], [.int a5], rf_MM w m1)) (by decide +kernel) rfl trivial ?_
    obtain ⟨y2, m2, hc2, hg⟩ := rf_b_some hg
    refine rf_calls C rf_fit0 j_X14_bits (As := [.int a5]) (rest := []) mw_X14_bits (c_X14_bits hc2) (by decide) lk_14_767 rfl rfl (Nat.le_of_ble_eq_true rfl) (by decide +kernel) ?_
    show rf_V 10 (rf_sh w) K 0 0 38 ([(0, .ref 206), (1, .int a1), (2, .int a2), (3, .ref 260), (4, .int a4), (5, .int a5)], [.int y2], rf_MM w m2)
    refine rf_seg C [(.iconst 1, 1), (.isub, 1), (.istore 6, 2), (.iconst 0, 1), (.istore 7, 2)] (pc' := 45) (S' := ([(7, .int 0), (6, .int (y2 - 1)), (0, .ref 206), (1, .int a1), (2, .int a2), (3, .ref 260), (4, .int a4), (5, .int a5)], [], rf_MM w m2)) (by decide +kernel) rfl trivial ?_
    refine rf_few [2, 3, 4, 5, 6, 7, 1, 0] rfl ?_
    exact s_X14_determinant__260_45 C hE hr12 rf_fuel a1 a2 a4 a5 (y2 - 1) 0 m2 hg
theorem s_X14_determinant__260_12 {w : rf_w} {K : rf_K} {r : rf_m} (C : rf_Ctx 14 cX14_determinant 10 3 (rf_sh w) K) (hE : rf_End none K (rf_sh w) 0 0 none (rf_MM w r)) (n : Nat) : ∀ (a1 : Int32) (a2 : Int32) (a4 : Int32) (a5 : Int32) (m : rf_m), g_X14_determinant__260_12 w n a1 a2 a4 a5 m = some r → rf_V 10 (rf_sh w) K 0 0 12 ([(0, .ref 206), (1, .int a1), (2, .int a2), (3, .ref 260), (4, .int a4), (5, .int a5)], [], rf_MM w m) := by
  induction n with
  | zero => intro a1 a2 a4 a5 m hg; cases hg
  | succ n ih => intro a1 a2 a4 a5 m hg; exact s_X14_determinant__260_12_b C hE ih a1 a2 a4 a5 m hg
theorem c_X14_determinant__260 {w : rf_w} {m : rf_m} {a1 : Int32} {a2 : Int32} {a4 : Int32} {r : rf_m} (hg : g_X14_determinant__260 w m a1 a2 a4 = some r) : rf_Con j_X14_determinant__260 3 (rf_sh w) [.ref 206, .int a1, .int a2, .ref 260, .int a4] (rf_MM w m) none (rf_MM w r) := by
  refine rf_con j_X14_determinant__260 3 ⟨by decide +kernel, rfl, Nat.le_of_ble_eq_true rfl⟩ (fun K C hE => ?_)
  unfold g_X14_determinant__260 at hg
  show rf_V 10 (rf_sh w) K 0 0 0 ([(0, .ref 206), (1, .int a1), (2, .int a2), (3, .ref 260), (4, .int a4)], [], rf_MM w m)
  refine rf_seg C [(.aload 0, 1), (.invokeinterface 14 79, 3), (.iconst 0, 1), (.goto_w 1, 1)] (pc' := 6) (S' := ([(0, .ref 206), (1, .int a1), (2, .int a2), (3, .ref 260), (4, .int a4)], [.long 1, .int 0, .ref 256], rf_MM w m)) (by decide +kernel) rfl trivial ?_
  obtain ⟨m0, hc0, hg⟩ := rf_bv_some hg
  refine rf_calls C rf_fit0 j_X14_set__256 (As := [.ref 256, .int 0, .long 1]) (rest := []) mw_X14_set__256 (c_X14_set__256 hc0) (by decide) lk_14_740 rfl rfl (Nat.le_of_ble_eq_true rfl) (by decide +kernel) ?_
  show rf_V 10 (rf_sh w) K 0 0 9 ([(0, .ref 206), (1, .int a1), (2, .int a2), (3, .ref 260), (4, .int a4)], [], rf_MM w m0)
  refine rf_seg C [(.iconst 1, 1), (.istore 5, 2)] (pc' := 12) (S' := ([(5, .int 1), (0, .ref 206), (1, .int a1), (2, .int a2), (3, .ref 260), (4, .int a4)], [], rf_MM w m0)) (by decide +kernel) rfl trivial ?_
  refine rf_few [1, 2, 3, 4, 5, 0] rfl ?_
  exact s_X14_determinant__260_12 C hE rf_fuel a1 a2 a4 1 m0 hg
-- X14_isZero__260
abbrev j_X14_isZero__260 : rf_J := (14, yX14_isZero, cX14_isZero, 4, (some .boolean))
theorem mw_X14_isZero__260 : rf_ms j_X14_isZero__260 2 := ⟨⟨rf_mem 72 (by decide +kernel), rf_mem 0 (by decide +kernel), rf_mem 72 (by decide +kernel)⟩, by decide +kernel, by decide⟩
def g_X14_isZero__260_27 (w : rf_w) (rec4 : Int32 → Int32 → Int32 → rf_m → Option (Int32 × rf_m)) (a1 : Int32) (a3 : Int32) (s0 : Int32) (m : rf_m) : Option (Int32 × rf_m) := rec4 a1 s0 (a3 + 1) m
def g_X14_isZero__260_26 (w : rf_w) (rec4 : Int32 → Int32 → Int32 → rf_m → Option (Int32 × rf_m)) (a1 : Int32) (a3 : Int32) (m : rf_m) : Option (Int32 × rf_m) := g_X14_isZero__260_27 w rec4 a1 a3 0 m
def g_X14_isZero__260_4_b (w : rf_w) (rec4 : Int32 → Int32 → Int32 → rf_m → Option (Int32 × rf_m)) (a1 : Int32) (a2 : Int32) (a3 : Int32) (m : rf_m) : Option (Int32 × rf_m) := (if 6 ≤ a3 then rf_g (rf_01 a2) (some (a2, m)) else (if a2 = 0 then g_X14_isZero__260_26 w rec4 a1 a3 m else rf_g (rf_in (a1 + a3) 6) ((if (m.1 260 (Int32.toNatClampNeg (a1 + a3))) = 0 then g_X14_isZero__260_27 w rec4 a1 a3 1 m else g_X14_isZero__260_26 w rec4 a1 a3 m))))
def g_X14_isZero__260_4 (w : rf_w) : Nat → Int32 → Int32 → Int32 → rf_m → Option (Int32 × rf_m)
  | 0, _, _, _, _ => none
  | n + 1, a1, a2, a3, m => g_X14_isZero__260_4_b w (g_X14_isZero__260_4 w n) a1 a2 a3 m
def g_X14_isZero__260 (w : rf_w) (m : rf_m) (a1 : Int32) : Option (Int32 × rf_m) := g_X14_isZero__260_4 w rf_fuel a1 1 0 m
theorem s_X14_isZero__260_27 {w : rf_w} {K : rf_K} {r : Int32 × rf_m} (C : rf_Ctx 14 cX14_isZero 4 1 (rf_sh w) K) (hE : rf_End (some .boolean) K (rf_sh w) 0 0 (some (.int r.1)) (rf_MM w r.2)) {rec4 : Int32 → Int32 → Int32 → rf_m → Option (Int32 × rf_m)} (hr4 : ∀ (a1 : Int32) (a2 : Int32) (a3 : Int32) (m : rf_m), rec4 a1 a2 a3 m = some r → rf_V 4 (rf_sh w) K 0 0 4 ([(0, .ref 260), (1, .int a1), (2, .int a2), (3, .int a3)], [], rf_MM w m)) (a1 : Int32) (a3 : Int32) (s0 : Int32) (m : rf_m) (hg : g_X14_isZero__260_27 w rec4 a1 a3 s0 m = some r) : rf_V 4 (rf_sh w) K 0 0 27 ([(0, .ref 260), (1, .int a1), (3, .int a3)], [.int s0], rf_MM w m) := by
  unfold g_X14_isZero__260_27 at hg
  refine rf_seg C [(.istore 2, 1), (.iinc 3 1, 3)] (pc' := 31) (S' := ([(3, .int (a3 + 1)), (2, .int s0), (0, .ref 260), (1, .int a1)], [], rf_MM w m)) (by decide +kernel) rfl trivial ?_
  refine rf_goto C (-27) 4 (by decide +kernel) ?_
  refine rf_few [2, 3, 1, 0] rfl ?_
  exact hr4 a1 s0 (a3 + 1) m hg
theorem s_X14_isZero__260_26 {w : rf_w} {K : rf_K} {r : Int32 × rf_m} (C : rf_Ctx 14 cX14_isZero 4 1 (rf_sh w) K) (hE : rf_End (some .boolean) K (rf_sh w) 0 0 (some (.int r.1)) (rf_MM w r.2)) {rec4 : Int32 → Int32 → Int32 → rf_m → Option (Int32 × rf_m)} (hr4 : ∀ (a1 : Int32) (a2 : Int32) (a3 : Int32) (m : rf_m), rec4 a1 a2 a3 m = some r → rf_V 4 (rf_sh w) K 0 0 4 ([(0, .ref 260), (1, .int a1), (2, .int a2), (3, .int a3)], [], rf_MM w m)) (a1 : Int32) (a3 : Int32) (m : rf_m) (hg : g_X14_isZero__260_26 w rec4 a1 a3 m = some r) : rf_V 4 (rf_sh w) K 0 0 26 ([(0, .ref 260), (1, .int a1), (3, .int a3)], [], rf_MM w m) := by
  unfold g_X14_isZero__260_26 at hg
  refine rf_seg C [(.iconst 0, 1)] (pc' := 27) (S' := ([(0, .ref 260), (1, .int a1), (3, .int a3)], [.int 0], rf_MM w m)) (by decide +kernel) rfl trivial ?_
  refine rf_few [0, 1, 2] rfl ?_
  exact s_X14_isZero__260_27 C hE hr4 a1 a3 0 m hg
theorem s_X14_isZero__260_4_b {w : rf_w} {K : rf_K} {r : Int32 × rf_m} (C : rf_Ctx 14 cX14_isZero 4 1 (rf_sh w) K) (hE : rf_End (some .boolean) K (rf_sh w) 0 0 (some (.int r.1)) (rf_MM w r.2)) {rec4 : Int32 → Int32 → Int32 → rf_m → Option (Int32 × rf_m)} (hr4 : ∀ (a1 : Int32) (a2 : Int32) (a3 : Int32) (m : rf_m), rec4 a1 a2 a3 m = some r → rf_V 4 (rf_sh w) K 0 0 4 ([(0, .ref 260), (1, .int a1), (2, .int a2), (3, .int a3)], [], rf_MM w m)) (a1 : Int32) (a2 : Int32) (a3 : Int32) (m : rf_m) (hg : g_X14_isZero__260_4_b w rec4 a1 a2 a3 m = some r) : rf_V 4 (rf_sh w) K 0 0 4 ([(0, .ref 260), (1, .int a1), (2, .int a2), (3, .int a3)], [], rf_MM w m) := by
  unfold g_X14_isZero__260_4_b at hg
  refine rf_seg C [(.iload 3, 1), (.iconst 6, 2)] (pc' := 7) (S' := ([(0, .ref 260), (1, .int a1), (2, .int a2), (3, .int a3)], [.int 6, .int a3], rf_MM w m)) (by decide +kernel) rfl trivial ?_
  refine rf_icmp_ge C 27 34 (by decide +kernel) (fun hc => ?_) (fun hc => ?_)
  · replace hg := (if_pos hc).symm.trans hg
    refine rf_seg C [(.iload 2, 1)] (pc' := 35) (S' := ([(0, .ref 260), (1, .int a1), (2, .int a2), (3, .int a3)], [.int a2], rf_MM w m)) (by decide +kernel) rfl trivial ?_
    obtain ⟨q01, hg⟩ := rf_g_some hg
    obtain rfl := Option.some.inj hg
    exact rf_zret C hE (rf_01_of q01) (by decide +kernel)
  · replace hg := (if_neg hc).symm.trans hg
    refine rf_seg C [(.iload 2, 1)] (pc' := 11) (S' := ([(0, .ref 260), (1, .int a1), (2, .int a2), (3, .int a3)], [.int a2], rf_MM w m)) (by decide +kernel) rfl trivial ?_
    refine rf_if_eq C 15 26 (by decide +kernel) (fun hc => ?_) (fun hc => ?_)
    · replace hg := (if_pos hc).symm.trans hg
      refine rf_few [0, 1, 3] rfl ?_
      exact s_X14_isZero__260_26 C hE hr4 a1 a3 m hg
    · replace hg := (if_neg hc).symm.trans hg
      obtain ⟨q0, hg⟩ := rf_g_some hg
      refine rf_seg C [(.aload 0, 1), (.iload 1, 1), (.iload 3, 1), (.iadd, 1), (.iaload, 1)] (pc' := 19) (S' := ([(0, .ref 260), (1, .int a1), (2, .int a2), (3, .int a3)], [.int (m.1 260 (Int32.toNatClampNeg (a1 + a3)))], rf_MM w m)) (by decide +kernel) rfl (rf_in_of q0) ?_
      refine rf_if_ne C 7 26 (by decide +kernel) (fun hc => ?_) (fun hc => ?_)
      · replace hg := (if_neg hc).symm.trans hg
        refine rf_few [0, 1, 3] rfl ?_
        exact s_X14_isZero__260_26 C hE hr4 a1 a3 m hg
      · replace hg := (if_pos hc).symm.trans hg
        refine rf_seg C [(.iconst 1, 1)] (pc' := 23) (S' := ([(0, .ref 260), (1, .int a1), (2, .int a2), (3, .int a3)], [.int 1], rf_MM w m)) (by decide +kernel) rfl trivial ?_
        refine rf_goto C 4 27 (by decide +kernel) ?_
        refine rf_few [0, 1, 3] rfl ?_
        exact s_X14_isZero__260_27 C hE hr4 a1 a3 1 m hg
theorem s_X14_isZero__260_4 {w : rf_w} {K : rf_K} {r : Int32 × rf_m} (C : rf_Ctx 14 cX14_isZero 4 1 (rf_sh w) K) (hE : rf_End (some .boolean) K (rf_sh w) 0 0 (some (.int r.1)) (rf_MM w r.2)) (n : Nat) : ∀ (a1 : Int32) (a2 : Int32) (a3 : Int32) (m : rf_m), g_X14_isZero__260_4 w n a1 a2 a3 m = some r → rf_V 4 (rf_sh w) K 0 0 4 ([(0, .ref 260), (1, .int a1), (2, .int a2), (3, .int a3)], [], rf_MM w m) := by
  induction n with
  | zero => intro a1 a2 a3 m hg; cases hg
  | succ n ih => intro a1 a2 a3 m hg; exact s_X14_isZero__260_4_b C hE ih a1 a2 a3 m hg
theorem c_X14_isZero__260 {w : rf_w} {m : rf_m} {a1 : Int32} {r : Int32 × rf_m} (hg : g_X14_isZero__260 w m a1 = some r) : rf_Con j_X14_isZero__260 1 (rf_sh w) [.ref 260, .int a1] (rf_MM w m) (some (.int r.1)) (rf_MM w r.2) := by
  refine rf_con j_X14_isZero__260 1 ⟨by decide +kernel, rfl, Nat.le_of_ble_eq_true rfl⟩ (fun K C hE => ?_)
  unfold g_X14_isZero__260 at hg
  show rf_V 4 (rf_sh w) K 0 0 0 ([(0, .ref 260), (1, .int a1)], [], rf_MM w m)
  refine rf_seg C [(.iconst 1, 1), (.istore 2, 1), (.iconst 0, 1), (.istore 3, 1)] (pc' := 4) (S' := ([(3, .int 0), (2, .int 1), (0, .ref 260), (1, .int a1)], [], rf_MM w m)) (by decide +kernel) rfl trivial ?_
  refine rf_few [2, 3, 1, 0] rfl ?_
  exact s_X14_isZero__260_4 C hE rf_fuel a1 1 0 m hg
-- X14_copies__259_260
abbrev j_X14_copies__259_260 : rf_J := (14, yX14_copies, cX14_copies, 5, none)
theorem mw_X14_copies__259_260 : rf_ms j_X14_copies__259_260 4 := ⟨⟨rf_mem 71 (by decide +kernel), rf_mem 0 (by decide +kernel), rf_mem 71 (by decide +kernel)⟩, by decide +kernel, by decide⟩
def g_X14_copies__259_260_3_b (w : rf_w) (rec3 : Int32 → Int32 → Int32 → rf_m → Option (rf_m)) (a1 : Int32) (a3 : Int32) (a4 : Int32) (m : rf_m) : Option (rf_m) := (if 6 ≤ a4 then some m else rf_g (rf_in (a3 + a4) 6) (rf_g (rf_in (a1 + a4) 6) (rec3 a1 a3 (a4 + 1) (rf_i m 259 (Int32.toNatClampNeg (a1 + a4)) (m.1 260 (Int32.toNatClampNeg (a3 + a4)))))))
def g_X14_copies__259_260_3 (w : rf_w) : Nat → Int32 → Int32 → Int32 → rf_m → Option (rf_m)
  | 0, _, _, _, _ => none
  | n + 1, a1, a3, a4, m => g_X14_copies__259_260_3_b w (g_X14_copies__259_260_3 w n) a1 a3 a4 m
def g_X14_copies__259_260 (w : rf_w) (m : rf_m) (a1 : Int32) (a3 : Int32) : Option (rf_m) := g_X14_copies__259_260_3 w rf_fuel a1 a3 0 m
theorem s_X14_copies__259_260_3_b {w : rf_w} {K : rf_K} {r : rf_m} (C : rf_Ctx 14 cX14_copies 5 1 (rf_sh w) K) (hE : rf_End none K (rf_sh w) 0 0 none (rf_MM w r)) {rec3 : Int32 → Int32 → Int32 → rf_m → Option (rf_m)} (hr3 : ∀ (a1 : Int32) (a3 : Int32) (a4 : Int32) (m : rf_m), rec3 a1 a3 a4 m = some r → rf_V 5 (rf_sh w) K 0 0 3 ([(0, .ref 259), (1, .int a1), (2, .ref 260), (3, .int a3), (4, .int a4)], [], rf_MM w m)) (a1 : Int32) (a3 : Int32) (a4 : Int32) (m : rf_m) (hg : g_X14_copies__259_260_3_b w rec3 a1 a3 a4 m = some r) : rf_V 5 (rf_sh w) K 0 0 3 ([(0, .ref 259), (1, .int a1), (2, .ref 260), (3, .int a3), (4, .int a4)], [], rf_MM w m) := by
  unfold g_X14_copies__259_260_3_b at hg
  refine rf_seg C [(.iload 4, 2), (.iconst 6, 2)] (pc' := 7) (S' := ([(0, .ref 259), (1, .int a1), (2, .ref 260), (3, .int a3), (4, .int a4)], [.int 6, .int a4], rf_MM w m)) (by decide +kernel) rfl trivial ?_
  refine rf_icmp_ge C 21 28 (by decide +kernel) (fun hc => ?_) (fun hc => ?_)
  · replace hg := (if_pos hc).symm.trans hg
    obtain rfl := Option.some.inj hg
    exact rf_vret C hE (by decide +kernel)
  · replace hg := (if_neg hc).symm.trans hg
    obtain ⟨q0, hg⟩ := rf_g_some hg
    obtain ⟨q1, hg⟩ := rf_g_some hg
    refine rf_seg C [(.aload 0, 1), (.iload 1, 1), (.iload 4, 2), (.iadd, 1), (.aload 2, 1), (.iload 3, 1), (.iload 4, 2), (.iadd, 1), (.iaload, 1), (.iastore, 1), (.iinc 4 1, 3)] (pc' := 25) (S' := ([(4, .int (a4 + 1)), (0, .ref 259), (1, .int a1), (2, .ref 260), (3, .int a3)], [], rf_MM w (rf_i m 259 (Int32.toNatClampNeg (a1 + a4)) (m.1 260 (Int32.toNatClampNeg (a3 + a4)))))) (by decide +kernel) rfl (by exact ⟨(rf_in_of q0), (rf_in_of q1)⟩) ?_
    refine rf_goto C (-22) 3 (by decide +kernel) ?_
    refine rf_few [1, 2, 3, 4, 0] rfl ?_
    exact hr3 a1 a3 (a4 + 1) (rf_i m 259 (Int32.toNatClampNeg (a1 + a4)) (m.1 260 (Int32.toNatClampNeg (a3 + a4)))) hg
theorem s_X14_copies__259_260_3 {w : rf_w} {K : rf_K} {r : rf_m} (C : rf_Ctx 14 cX14_copies 5 1 (rf_sh w) K) (hE : rf_End none K (rf_sh w) 0 0 none (rf_MM w r)) (n : Nat) : ∀ (a1 : Int32) (a3 : Int32) (a4 : Int32) (m : rf_m), g_X14_copies__259_260_3 w n a1 a3 a4 m = some r → rf_V 5 (rf_sh w) K 0 0 3 ([(0, .ref 259), (1, .int a1), (2, .ref 260), (3, .int a3), (4, .int a4)], [], rf_MM w m) := by
  induction n with
  | zero => intro a1 a3 a4 m hg; cases hg
  | succ n ih => intro a1 a3 a4 m hg; exact s_X14_copies__259_260_3_b C hE ih a1 a3 a4 m hg
theorem c_X14_copies__259_260 {w : rf_w} {m : rf_m} {a1 : Int32} {a3 : Int32} {r : rf_m} (hg : g_X14_copies__259_260 w m a1 a3 = some r) : rf_Con j_X14_copies__259_260 1 (rf_sh w) [.ref 259, .int a1, .ref 260, .int a3] (rf_MM w m) none (rf_MM w r) := by
  refine rf_con j_X14_copies__259_260 1 ⟨by decide +kernel, rfl, Nat.le_of_ble_eq_true rfl⟩ (fun K C hE => ?_)
  unfold g_X14_copies__259_260 at hg
  show rf_V 5 (rf_sh w) K 0 0 0 ([(0, .ref 259), (1, .int a1), (2, .ref 260), (3, .int a3)], [], rf_MM w m)
  refine rf_seg C [(.iconst 0, 1), (.istore 4, 2)] (pc' := 3) (S' := ([(4, .int 0), (0, .ref 259), (1, .int a1), (2, .ref 260), (3, .int a3)], [], rf_MM w m)) (by decide +kernel) rfl trivial ?_
  refine rf_few [1, 2, 3, 4, 0] rfl ?_
  exact s_X14_copies__259_260_3 C hE rf_fuel a1 a3 0 m hg
-- X14_copies__253_259
abbrev j_X14_copies__253_259 : rf_J := (14, yX14_copies, cX14_copies, 5, none)
theorem mw_X14_copies__253_259 : rf_ms j_X14_copies__253_259 4 := ⟨⟨rf_mem 71 (by decide +kernel), rf_mem 0 (by decide +kernel), rf_mem 71 (by decide +kernel)⟩, by decide +kernel, by decide⟩
def g_X14_copies__253_259_3_b (w : rf_w) (rec3 : Int32 → Int32 → Int32 → rf_m → Option (rf_m)) (a1 : Int32) (a3 : Int32) (a4 : Int32) (m : rf_m) : Option (rf_m) := (if 6 ≤ a4 then some m else rf_g (rf_in (a3 + a4) 6) (rf_g (rf_in (a1 + a4) 6) (rec3 a1 a3 (a4 + 1) (rf_i m 253 (Int32.toNatClampNeg (a1 + a4)) (m.1 259 (Int32.toNatClampNeg (a3 + a4)))))))
def g_X14_copies__253_259_3 (w : rf_w) : Nat → Int32 → Int32 → Int32 → rf_m → Option (rf_m)
  | 0, _, _, _, _ => none
  | n + 1, a1, a3, a4, m => g_X14_copies__253_259_3_b w (g_X14_copies__253_259_3 w n) a1 a3 a4 m
def g_X14_copies__253_259 (w : rf_w) (m : rf_m) (a1 : Int32) (a3 : Int32) : Option (rf_m) := g_X14_copies__253_259_3 w rf_fuel a1 a3 0 m
theorem s_X14_copies__253_259_3_b {w : rf_w} {K : rf_K} {r : rf_m} (C : rf_Ctx 14 cX14_copies 5 1 (rf_sh w) K) (hE : rf_End none K (rf_sh w) 0 0 none (rf_MM w r)) {rec3 : Int32 → Int32 → Int32 → rf_m → Option (rf_m)} (hr3 : ∀ (a1 : Int32) (a3 : Int32) (a4 : Int32) (m : rf_m), rec3 a1 a3 a4 m = some r → rf_V 5 (rf_sh w) K 0 0 3 ([(0, .ref 253), (1, .int a1), (2, .ref 259), (3, .int a3), (4, .int a4)], [], rf_MM w m)) (a1 : Int32) (a3 : Int32) (a4 : Int32) (m : rf_m) (hg : g_X14_copies__253_259_3_b w rec3 a1 a3 a4 m = some r) : rf_V 5 (rf_sh w) K 0 0 3 ([(0, .ref 253), (1, .int a1), (2, .ref 259), (3, .int a3), (4, .int a4)], [], rf_MM w m) := by
  unfold g_X14_copies__253_259_3_b at hg
  refine rf_seg C [(.iload 4, 2), (.iconst 6, 2)] (pc' := 7) (S' := ([(0, .ref 253), (1, .int a1), (2, .ref 259), (3, .int a3), (4, .int a4)], [.int 6, .int a4], rf_MM w m)) (by decide +kernel) rfl trivial ?_
  refine rf_icmp_ge C 21 28 (by decide +kernel) (fun hc => ?_) (fun hc => ?_)
  · replace hg := (if_pos hc).symm.trans hg
    obtain rfl := Option.some.inj hg
    exact rf_vret C hE (by decide +kernel)
  · replace hg := (if_neg hc).symm.trans hg
    obtain ⟨q0, hg⟩ := rf_g_some hg
    obtain ⟨q1, hg⟩ := rf_g_some hg
    refine rf_seg C [(.aload 0, 1), (.iload 1, 1), (.iload 4, 2), (.iadd, 1), (.aload 2, 1), (.iload 3, 1), (.iload 4, 2), (.iadd, 1), (.iaload, 1), (.iastore, 1), (.iinc 4 1, 3)] (pc' := 25) (S' := ([(4, .int (a4 + 1)), (0, .ref 253), (1, .int a1), (2, .ref 259), (3, .int a3)], [], rf_MM w (rf_i m 253 (Int32.toNatClampNeg (a1 + a4)) (m.1 259 (Int32.toNatClampNeg (a3 + a4)))))) (by decide +kernel) rfl (by exact ⟨(rf_in_of q0), (rf_in_of q1)⟩) ?_
    refine rf_goto C (-22) 3 (by decide +kernel) ?_
    refine rf_few [1, 2, 3, 4, 0] rfl ?_
    exact hr3 a1 a3 (a4 + 1) (rf_i m 253 (Int32.toNatClampNeg (a1 + a4)) (m.1 259 (Int32.toNatClampNeg (a3 + a4)))) hg
theorem s_X14_copies__253_259_3 {w : rf_w} {K : rf_K} {r : rf_m} (C : rf_Ctx 14 cX14_copies 5 1 (rf_sh w) K) (hE : rf_End none K (rf_sh w) 0 0 none (rf_MM w r)) (n : Nat) : ∀ (a1 : Int32) (a3 : Int32) (a4 : Int32) (m : rf_m), g_X14_copies__253_259_3 w n a1 a3 a4 m = some r → rf_V 5 (rf_sh w) K 0 0 3 ([(0, .ref 253), (1, .int a1), (2, .ref 259), (3, .int a3), (4, .int a4)], [], rf_MM w m) := by
  induction n with
  | zero => intro a1 a3 a4 m hg; cases hg
  | succ n ih => intro a1 a3 a4 m hg; exact s_X14_copies__253_259_3_b C hE ih a1 a3 a4 m hg
theorem c_X14_copies__253_259 {w : rf_w} {m : rf_m} {a1 : Int32} {a3 : Int32} {r : rf_m} (hg : g_X14_copies__253_259 w m a1 a3 = some r) : rf_Con j_X14_copies__253_259 1 (rf_sh w) [.ref 253, .int a1, .ref 259, .int a3] (rf_MM w m) none (rf_MM w r) := by
  refine rf_con j_X14_copies__253_259 1 ⟨by decide +kernel, rfl, Nat.le_of_ble_eq_true rfl⟩ (fun K C hE => ?_)
  unfold g_X14_copies__253_259 at hg
  show rf_V 5 (rf_sh w) K 0 0 0 ([(0, .ref 253), (1, .int a1), (2, .ref 259), (3, .int a3)], [], rf_MM w m)
  refine rf_seg C [(.iconst 0, 1), (.istore 4, 2)] (pc' := 3) (S' := ([(4, .int 0), (0, .ref 253), (1, .int a1), (2, .ref 259), (3, .int a3)], [], rf_MM w m)) (by decide +kernel) rfl trivial ?_
  refine rf_few [1, 2, 3, 4, 0] rfl ?_
  exact s_X14_copies__253_259_3 C hE rf_fuel a1 a3 0 m hg
-- X14_set__252
abbrev j_X14_set__252 : rf_J := (14, yX14_set, cX14_set, 5, none)
theorem mw_X14_set__252 : rf_ms j_X14_set__252 3 := ⟨⟨rf_mem 71 (by decide +kernel), rf_mem 0 (by decide +kernel), rf_mem 71 (by decide +kernel)⟩, by decide +kernel, by decide⟩
def g_X14_set__252_50 (w : rf_w) (rec3 : Int32 → Int64 → Int32 → rf_m → Option (rf_m)) (a1 : Int32) (a2 : Int64) (a4 : Int32) (s1 : Int32) (s2 : Int32) (m : rf_m) : Option (rf_m) := rf_g (rf_in s1 6) (rec3 a1 a2 (a4 + 1) (rf_i m 252 (Int32.toNatClampNeg s1) s2))
def g_X14_set__252_3_b (w : rf_w) (rec3 : Int32 → Int64 → Int32 → rf_m → Option (rf_m)) (a1 : Int32) (a2 : Int64) (a4 : Int32) (m : rf_m) : Option (rf_m) := (if 6 ≤ a4 then some m else (if a4 = 0 then g_X14_set__252_50 w rec3 a1 a2 a4 (a1 + a4) (Int64.toInt32 a2) m else (if a4 = 1 then g_X14_set__252_50 w rec3 a1 a2 a4 (a1 + a4) (Int64.toInt32 (a2 >>> (Int32.toInt64 32 &&& 63))) m else (if (0 : Int32) ≤ (lg_cmp a2 0) then g_X14_set__252_50 w rec3 a1 a2 a4 (a1 + a4) 0 m else g_X14_set__252_50 w rec3 a1 a2 a4 (a1 + a4) ((-1)) m))))
def g_X14_set__252_3 (w : rf_w) : Nat → Int32 → Int64 → Int32 → rf_m → Option (rf_m)
  | 0, _, _, _, _ => none
  | n + 1, a1, a2, a4, m => g_X14_set__252_3_b w (g_X14_set__252_3 w n) a1 a2 a4 m
def g_X14_set__252 (w : rf_w) (m : rf_m) (a1 : Int32) (a2 : Int64) : Option (rf_m) := g_X14_set__252_3 w rf_fuel a1 a2 0 m
theorem s_X14_set__252_50 {w : rf_w} {K : rf_K} {r : rf_m} (C : rf_Ctx 14 cX14_set 5 1 (rf_sh w) K) (hE : rf_End none K (rf_sh w) 0 0 none (rf_MM w r)) {rec3 : Int32 → Int64 → Int32 → rf_m → Option (rf_m)} (hr3 : ∀ (a1 : Int32) (a2 : Int64) (a4 : Int32) (m : rf_m), rec3 a1 a2 a4 m = some r → rf_V 5 (rf_sh w) K 0 0 3 ([(0, .ref 252), (1, .int a1), (2, .long a2), (4, .int a4)], [], rf_MM w m)) (a1 : Int32) (a2 : Int64) (a4 : Int32) (s1 : Int32) (s2 : Int32) (m : rf_m) (hg : g_X14_set__252_50 w rec3 a1 a2 a4 s1 s2 m = some r) : rf_V 5 (rf_sh w) K 0 0 50 ([(0, .ref 252), (1, .int a1), (2, .long a2), (4, .int a4)], [.int s2, .int s1, .ref 252], rf_MM w m) := by
  unfold g_X14_set__252_50 at hg
  obtain ⟨q0, hg⟩ := rf_g_some hg
  refine rf_seg C [(.iastore, 1), (.iinc 4 1, 3)] (pc' := 54) (S' := ([(4, .int (a4 + 1)), (0, .ref 252), (1, .int a1), (2, .long a2)], [], rf_MM w (rf_i m 252 (Int32.toNatClampNeg s1) s2))) (by decide +kernel) rfl (rf_in_of q0) ?_
  refine rf_goto C (-51) 3 (by decide +kernel) ?_
  refine rf_few [1, 2, 3, 0] rfl ?_
  exact hr3 a1 a2 (a4 + 1) (rf_i m 252 (Int32.toNatClampNeg s1) s2) hg
theorem s_X14_set__252_3_b {w : rf_w} {K : rf_K} {r : rf_m} (C : rf_Ctx 14 cX14_set 5 1 (rf_sh w) K) (hE : rf_End none K (rf_sh w) 0 0 none (rf_MM w r)) {rec3 : Int32 → Int64 → Int32 → rf_m → Option (rf_m)} (hr3 : ∀ (a1 : Int32) (a2 : Int64) (a4 : Int32) (m : rf_m), rec3 a1 a2 a4 m = some r → rf_V 5 (rf_sh w) K 0 0 3 ([(0, .ref 252), (1, .int a1), (2, .long a2), (4, .int a4)], [], rf_MM w m)) (a1 : Int32) (a2 : Int64) (a4 : Int32) (m : rf_m) (hg : g_X14_set__252_3_b w rec3 a1 a2 a4 m = some r) : rf_V 5 (rf_sh w) K 0 0 3 ([(0, .ref 252), (1, .int a1), (2, .long a2), (4, .int a4)], [], rf_MM w m) := by
  unfold g_X14_set__252_3_b at hg
  refine rf_seg C [(.iload 4, 2), (.iconst 6, 2)] (pc' := 7) (S' := ([(0, .ref 252), (1, .int a1), (2, .long a2), (4, .int a4)], [.int 6, .int a4], rf_MM w m)) (by decide +kernel) rfl trivial ?_
  refine rf_icmp_ge C 50 57 (by decide +kernel) (fun hc => ?_) (fun hc => ?_)
  · replace hg := (if_pos hc).symm.trans hg
    obtain rfl := Option.some.inj hg
    exact rf_vret C hE (by decide +kernel)
  · replace hg := (if_neg hc).symm.trans hg
    refine rf_seg C [(.aload 0, 1), (.iload 1, 1), (.iload 4, 2), (.iadd, 1), (.iload 4, 2)] (pc' := 17) (S' := ([(0, .ref 252), (1, .int a1), (2, .long a2), (4, .int a4)], [.int a4, .int (a1 + a4), .ref 252], rf_MM w m)) (by decide +kernel) rfl trivial ?_
    refine rf_if_ne C 8 25 (by decide +kernel) (fun hc => ?_) (fun hc => ?_)
    · replace hg := (if_neg hc).symm.trans hg
      refine rf_seg C [(.iload 4, 2), (.iconst 1, 1)] (pc' := 28) (S' := ([(0, .ref 252), (1, .int a1), (2, .long a2), (4, .int a4)], [.int 1, .int a4, .int (a1 + a4), .ref 252], rf_MM w m)) (by decide +kernel) rfl trivial ?_
      refine rf_icmp_ne C 11 39 (by decide +kernel) (fun hc => ?_) (fun hc => ?_)
      · replace hg := (if_neg hc).symm.trans hg
        refine rf_seg C [(.lload 2, 1), (.goto_w 0, 1), (.lcmp, 1)] (pc' := 42) (S' := ([(0, .ref 252), (1, .int a1), (2, .long a2), (4, .int a4)], [.int (lg_cmp a2 0), .int (a1 + a4), .ref 252], rf_MM w m)) (by decide +kernel) rfl trivial ?_
        refine rf_if_ge C 7 49 (by decide +kernel) (fun hc => ?_) (fun hc => ?_)
        · replace hg := (if_pos hc).symm.trans hg
          refine rf_seg C [(.iconst 0, 1)] (pc' := 50) (S' := ([(0, .ref 252), (1, .int a1), (2, .long a2), (4, .int a4)], [.int 0, .int (a1 + a4), .ref 252], rf_MM w m)) (by decide +kernel) rfl trivial ?_
          refine rf_few [0, 1, 2, 3] rfl ?_
          exact s_X14_set__252_50 C hE hr3 a1 a2 a4 (a1 + a4) 0 m hg
        · replace hg := (if_neg hc).symm.trans hg
          refine rf_seg C [(.iconst (-1), 1)] (pc' := 46) (S' := ([(0, .ref 252), (1, .int a1), (2, .long a2), (4, .int a4)], [.int ((-1)), .int (a1 + a4), .ref 252], rf_MM w m)) (by decide +kernel) rfl trivial ?_
          refine rf_goto C 4 50 (by decide +kernel) ?_
          refine rf_few [0, 1, 2, 3] rfl ?_
          exact s_X14_set__252_50 C hE hr3 a1 a2 a4 (a1 + a4) ((-1)) m hg
      · replace hg := (if_pos hc).symm.trans hg
        refine rf_seg C [(.lload 2, 1), (.iconst 32, 2), (.lshr, 1), (.l2i, 1)] (pc' := 36) (S' := ([(0, .ref 252), (1, .int a1), (2, .long a2), (4, .int a4)], [.int (Int64.toInt32 (a2 >>> (Int32.toInt64 32 &&& 63))), .int (a1 + a4), .ref 252], rf_MM w m)) (by decide +kernel) rfl trivial ?_
        refine rf_goto C 14 50 (by decide +kernel) ?_
        refine rf_few [0, 1, 2, 3] rfl ?_
        exact s_X14_set__252_50 C hE hr3 a1 a2 a4 (a1 + a4) (Int64.toInt32 (a2 >>> (Int32.toInt64 32 &&& 63))) m hg
    · replace hg := (if_pos hc).symm.trans hg
      refine rf_seg C [(.lload 2, 1), (.l2i, 1)] (pc' := 22) (S' := ([(0, .ref 252), (1, .int a1), (2, .long a2), (4, .int a4)], [.int (Int64.toInt32 a2), .int (a1 + a4), .ref 252], rf_MM w m)) (by decide +kernel) rfl trivial ?_
      refine rf_goto C 28 50 (by decide +kernel) ?_
      refine rf_few [0, 1, 2, 3] rfl ?_
      exact s_X14_set__252_50 C hE hr3 a1 a2 a4 (a1 + a4) (Int64.toInt32 a2) m hg
theorem s_X14_set__252_3 {w : rf_w} {K : rf_K} {r : rf_m} (C : rf_Ctx 14 cX14_set 5 1 (rf_sh w) K) (hE : rf_End none K (rf_sh w) 0 0 none (rf_MM w r)) (n : Nat) : ∀ (a1 : Int32) (a2 : Int64) (a4 : Int32) (m : rf_m), g_X14_set__252_3 w n a1 a2 a4 m = some r → rf_V 5 (rf_sh w) K 0 0 3 ([(0, .ref 252), (1, .int a1), (2, .long a2), (4, .int a4)], [], rf_MM w m) := by
  induction n with
  | zero => intro a1 a2 a4 m hg; cases hg
  | succ n ih => intro a1 a2 a4 m hg; exact s_X14_set__252_3_b C hE ih a1 a2 a4 m hg
theorem c_X14_set__252 {w : rf_w} {m : rf_m} {a1 : Int32} {a2 : Int64} {r : rf_m} (hg : g_X14_set__252 w m a1 a2 = some r) : rf_Con j_X14_set__252 1 (rf_sh w) [.ref 252, .int a1, .long a2] (rf_MM w m) none (rf_MM w r) := by
  refine rf_con j_X14_set__252 1 ⟨by decide +kernel, rfl, Nat.le_of_ble_eq_true rfl⟩ (fun K C hE => ?_)
  unfold g_X14_set__252 at hg
  show rf_V 5 (rf_sh w) K 0 0 0 ([(0, .ref 252), (1, .int a1), (2, .long a2)], [], rf_MM w m)
  refine rf_seg C [(.iconst 0, 1), (.istore 4, 2)] (pc' := 3) (S' := ([(4, .int 0), (0, .ref 252), (1, .int a1), (2, .long a2)], [], rf_MM w m)) (by decide +kernel) rfl trivial ?_
  refine rf_few [1, 2, 3, 0] rfl ?_
  exact s_X14_set__252_3 C hE rf_fuel a1 a2 0 m hg
-- X14_adjust
abbrev j_X14_adjust : rf_J := (14, yX14_adjust, cX14_adjust, 9, (some .int))
theorem mw_X14_adjust : rf_mv j_X14_adjust (rf_R 14) 2 := ⟨⟨rf_mem 70 (by decide +kernel), rf_mem 70 (by decide +kernel), rf_mem 0 (by decide +kernel), rf_memi 70 16 rfl⟩, by decide +kernel, by decide⟩
def g_X14_adjust_718_b (w : rf_w) (rec718 : Int32 → Int32 → rf_m → Option (Int32 × rf_m)) (a5 : Int32) (a6 : Int32) (m : rf_m) : Option (Int32 × rf_m) := (if 80 ≤ a6 then rf_b (g_X14_done w (rf_i m 206 88 1) a5) fun y0 m0 => some (y0, m0) else rf_g (rf_in a6 80) (rec718 a5 (a6 + 1) (rf_i m 263 (Int32.toNatClampNeg a6) (vp_nar .boolean 0))))
def g_X14_adjust_718 (w : rf_w) : Nat → Int32 → Int32 → rf_m → Option (Int32 × rf_m)
  | 0, _, _, _ => none
  | n + 1, a5, a6, m => g_X14_adjust_718_b w (g_X14_adjust_718 w n) a5 a6 m
def g_X14_adjust_703 (w : rf_w) (rec557 : Int32 → Int32 → Int32 → rf_m → Option (Int32 × rf_m)) (a3 : Int32) (a6 : Int32) (s0 : Int32) (s1 : Int32) (m : rf_m) : Option (Int32 × rf_m) := rec557 a3 (s0 + s1) (a6 + 1) m
def g_X14_adjust_639 (w : rf_w) (rec557 : Int32 → Int32 → Int32 → rf_m → Option (Int32 × rf_m)) (rec590 : Int32 → Int32 → Int32 → Int32 → rf_m → Option (Int32 × rf_m)) (a3 : Int32) (a5 : Int32) (a6 : Int32) (a7 : Int32) (m : rf_m) : Option (Int32 × rf_m) := rec590 a3 a5 a6 (a7 + 1) m
def g_X14_adjust_590_b (w : rf_w) (rec557 : Int32 → Int32 → Int32 → rf_m → Option (Int32 × rf_m)) (rec590 : Int32 → Int32 → Int32 → Int32 → rf_m → Option (Int32 × rf_m)) (a3 : Int32) (a5 : Int32) (a6 : Int32) (a7 : Int32) (m : rf_m) : Option (Int32 × rf_m) := (if a3 ≤ a7 then rf_g (rf_in a6 80) (rf_bv (g_X14_times__257_264 w m 0 (6 * a6) (m.1 265 (Int32.toNatClampNeg a6))) fun m1 => rf_bv (g_X14_copies__264_257 w m1 (6 * a6) 0) fun m2 => rf_g (rf_in a6 80) ((if (m2.1 263 (Int32.toNatClampNeg a6)) = 0 then g_X14_adjust_703 w rec557 a3 a6 a5 0 m2 else g_X14_adjust_703 w rec557 a3 a6 a5 1 m2))) else rf_b (g_X14_isPartOf w m a7 a6) fun y4 m4 => (if y4 = 0 then g_X14_adjust_639 w rec557 rec590 a3 a5 a6 a7 m4 else rf_g (rf_in a6 80) (rf_bv (g_X14_adds__264_258 w (rf_i m4 263 (Int32.toNatClampNeg a6) (vp_nar .boolean 1)) (6 * a6) (6 * a7)) fun m6 => g_X14_adjust_639 w rec557 rec590 a3 a5 a6 a7 m6)))
def g_X14_adjust_590 (w : rf_w) (rec557 : Int32 → Int32 → Int32 → rf_m → Option (Int32 × rf_m)) : Nat → Int32 → Int32 → Int32 → Int32 → rf_m → Option (Int32 × rf_m)
  | 0, _, _, _, _, _ => none
  | n + 1, a3, a5, a6, a7, m => g_X14_adjust_590_b w rec557 (g_X14_adjust_590 w rec557 n) a3 a5 a6 a7 m
def g_X14_adjust_557_b (w : rf_w) (rec557 : Int32 → Int32 → Int32 → rf_m → Option (Int32 × rf_m)) (a3 : Int32) (a5 : Int32) (a6 : Int32) (m : rf_m) : Option (Int32 × rf_m) := (if (m.1 206 16) ≤ a6 then g_X14_adjust_718 w rf_fuel a5 (m.1 206 16) m else rf_bv (g_X14_set__264 w m (6 * a6) 0) fun m0 => rf_g (rf_in a6 80) (g_X14_adjust_590 w rec557 rf_fuel a3 a5 a6 0 (rf_i m0 263 (Int32.toNatClampNeg a6) (vp_nar .boolean 0))))
def g_X14_adjust_557 (w : rf_w) : Nat → Int32 → Int32 → Int32 → rf_m → Option (Int32 × rf_m)
  | 0, _, _, _, _ => none
  | n + 1, a3, a5, a6, m => g_X14_adjust_557_b w (g_X14_adjust_557 w n) a3 a5 a6 m
def g_X14_adjust_548 (w : rf_w) (a3 : Int32) (s1 : Int64) (m : rf_m) : Option (Int32 × rf_m) := g_X14_adjust_557 w rf_fuel a3 0 0 (rf_l m 206 89 s1)
def g_X14_adjust_432_b (w : rf_w) (rec432 : Int32 → Int32 → rf_m → Option (Int32 × rf_m)) (a3 : Int32) (a5 : Int32) (m : rf_m) : Option (Int32 × rf_m) := (if a3 ≤ a5 then rf_bv (g_X14_times__257_252 w m 0 0 2520000) fun m0 => rf_bv (g_X14_copies__252_257 w m0 0 0) fun m1 => rf_bv (g_X14_floors w m1) fun m2 => rf_b (g_X14_isLong w m2) fun y3 m3 => (if y3 = 0 then g_X14_adjust_548 w a3 ((-9223372036854775808)) m3 else rf_b (g_X14_quotientLong w m3) fun y4 m4 => g_X14_adjust_548 w a3 y4 m4) else rf_bv (g_X14_determinant__258 w m a3 a5 (6 * a5)) fun m5 => rf_g (rf_in a5 6) (rf_bv (g_X14_times__257_258 w m5 0 (6 * a5) (m5.1 255 (Int32.toNatClampNeg a5))) fun m7 => rf_bv (g_X14_adds__252_257 w m7 0 0) fun m8 => rec432 a3 (a5 + 1) m8))
def g_X14_adjust_432 (w : rf_w) : Nat → Int32 → Int32 → rf_m → Option (Int32 × rf_m)
  | 0, _, _, _ => none
  | n + 1, a3, a5, m => g_X14_adjust_432_b w (g_X14_adjust_432 w n) a3 a5 m
def g_X14_adjust_329 (w : rf_w) (rec264 : Int32 → Int32 → rf_m → Option (Int32 × rf_m)) (rec273 : Int32 → Int32 → Int32 → rf_m → Option (Int32 × rf_m)) (rec285 : Int32 → Int32 → Int32 → Int32 → Int32 → rf_m → Option (Int32 × rf_m)) (a3 : Int32) (a5 : Int32) (a6 : Int32) (a8 : Int32) (s0 : Int32) (s1 : Int32) (m : rf_m) : Option (Int32 × rf_m) := rec285 a3 a5 a6 (s0 + s1) (a8 + 1) m
def g_X14_adjust_328 (w : rf_w) (rec264 : Int32 → Int32 → rf_m → Option (Int32 × rf_m)) (rec273 : Int32 → Int32 → Int32 → rf_m → Option (Int32 × rf_m)) (rec285 : Int32 → Int32 → Int32 → Int32 → Int32 → rf_m → Option (Int32 × rf_m)) (a3 : Int32) (a5 : Int32) (a6 : Int32) (a8 : Int32) (s0 : Int32) (m : rf_m) : Option (Int32 × rf_m) := g_X14_adjust_329 w rec264 rec273 rec285 a3 a5 a6 a8 s0 0 m
def g_X14_adjust_285_b (w : rf_w) (rec264 : Int32 → Int32 → rf_m → Option (Int32 × rf_m)) (rec273 : Int32 → Int32 → Int32 → rf_m → Option (Int32 × rf_m)) (rec285 : Int32 → Int32 → Int32 → Int32 → Int32 → rf_m → Option (Int32 × rf_m)) (a3 : Int32) (a5 : Int32) (a6 : Int32) (a7 : Int32) (a8 : Int32) (m : rf_m) : Option (Int32 × rf_m) := (if (m.1 206 16) ≤ a8 then rf_g (rf_in ((6 * a5) + a6) 36) (rec273 a3 a5 (a6 + 1) (rf_i m 254 (Int32.toNatClampNeg ((6 * a5) + a6)) a7)) else rf_b (g_X14_isPartOf w m a5 a8) fun y1 m1 => (if y1 = 0 then g_X14_adjust_328 w rec264 rec273 rec285 a3 a5 a6 a8 a7 m1 else rf_b (g_X14_isPartOf w m1 a6 a8) fun y2 m2 => (if y2 = 0 then g_X14_adjust_328 w rec264 rec273 rec285 a3 a5 a6 a8 a7 m2 else rf_g (rf_in a8 80) (g_X14_adjust_329 w rec264 rec273 rec285 a3 a5 a6 a8 a7 (m2.1 265 (Int32.toNatClampNeg a8)) m2))))
def g_X14_adjust_285 (w : rf_w) (rec264 : Int32 → Int32 → rf_m → Option (Int32 × rf_m)) (rec273 : Int32 → Int32 → Int32 → rf_m → Option (Int32 × rf_m)) : Nat → Int32 → Int32 → Int32 → Int32 → Int32 → rf_m → Option (Int32 × rf_m)
  | 0, _, _, _, _, _, _ => none
  | n + 1, a3, a5, a6, a7, a8, m => g_X14_adjust_285_b w rec264 rec273 (g_X14_adjust_285 w rec264 rec273 n) a3 a5 a6 a7 a8 m
def g_X14_adjust_273_b (w : rf_w) (rec264 : Int32 → Int32 → rf_m → Option (Int32 × rf_m)) (rec273 : Int32 → Int32 → Int32 → rf_m → Option (Int32 × rf_m)) (a3 : Int32) (a5 : Int32) (a6 : Int32) (m : rf_m) : Option (Int32 × rf_m) := (if a3 ≤ a6 then rec264 a3 (a5 + 1) m else g_X14_adjust_285 w rec264 rec273 rf_fuel a3 a5 a6 0 0 m)
def g_X14_adjust_273 (w : rf_w) (rec264 : Int32 → Int32 → rf_m → Option (Int32 × rf_m)) : Nat → Int32 → Int32 → Int32 → rf_m → Option (Int32 × rf_m)
  | 0, _, _, _, _ => none
  | n + 1, a3, a5, a6, m => g_X14_adjust_273_b w rec264 (g_X14_adjust_273 w rec264 n) a3 a5 a6 m
def g_X14_adjust_264_b (w : rf_w) (rec264 : Int32 → Int32 → rf_m → Option (Int32 × rf_m)) (a3 : Int32) (a5 : Int32) (m : rf_m) : Option (Int32 × rf_m) := (if a3 ≤ a5 then rf_bv (g_X14_determinant__260 w m a3 ((-1)) 0) fun m0 => rf_b (g_X14_isZero__260 w m0 0) fun y1 m1 => (if y1 = 0 then rf_bv (g_X14_copies__259_260 w m1 0 0) fun m2 => rf_bv (g_X14_copies__253_259 w m2 0 0) fun m3 => rf_bv (g_X14_set__252 w m3 0 0) fun m4 => g_X14_adjust_432 w rf_fuel a3 0 m4 else rf_b (g_X14_refused w m1 6) fun y5 m5 => some (y5, m5)) else g_X14_adjust_273 w rec264 rf_fuel a3 a5 0 m)
def g_X14_adjust_264 (w : rf_w) : Nat → Int32 → Int32 → rf_m → Option (Int32 × rf_m)
  | 0, _, _, _ => none
  | n + 1, a3, a5, m => g_X14_adjust_264_b w (g_X14_adjust_264 w n) a3 a5 m
def g_X14_adjust_229_b (w : rf_w) (rec229 : Int32 → Int32 → rf_m → Option (Int32 × rf_m)) (a3 : Int32) (a5 : Int32) (m : rf_m) : Option (Int32 × rf_m) := (if (m.1 206 16) ≤ a5 then g_X14_adjust_264 w rf_fuel a3 0 m else rf_b (g_X14_weightOf w m a5) fun y0 m0 => rf_g (rf_nz y0) (rf_g (rf_in a5 80) (rec229 a3 (a5 + 1) (rf_i m0 265 (Int32.toNatClampNeg a5) (2520 / y0)))))
def g_X14_adjust_229 (w : rf_w) : Nat → Int32 → Int32 → rf_m → Option (Int32 × rf_m)
  | 0, _, _, _ => none
  | n + 1, a3, a5, m => g_X14_adjust_229_b w (g_X14_adjust_229 w n) a3 a5 m
def g_X14_adjust_209 (w : rf_w) (rec80 : Int32 → Int32 → Int32 → Int32 → Int32 → rf_m → Option (Int32 × rf_m)) (a1 : Int32) (a2 : Int32) (a3 : Int32) (a4 : Int32) (a5 : Int32) (m : rf_m) : Option (Int32 × rf_m) := rec80 a1 a2 a3 a4 (a5 + 1) m
def g_X14_adjust_191 (w : rf_w) (rec80 : Int32 → Int32 → Int32 → Int32 → Int32 → rf_m → Option (Int32 × rf_m)) (a1 : Int32) (a2 : Int32) (a3 : Int32) (a5 : Int32) (s0 : Int32) (m : rf_m) : Option (Int32 × rf_m) := rf_g (rf_in a3 6) (rf_g (rf_in a3 6) (g_X14_adjust_209 w rec80 a1 a2 (a3 + 1) s0 a5 (rf_i m 255 (Int32.toNatClampNeg a3) (-(m.1 255 (Int32.toNatClampNeg a3))))))
def g_X14_adjust_190 (w : rf_w) (rec80 : Int32 → Int32 → Int32 → Int32 → Int32 → rf_m → Option (Int32 × rf_m)) (a1 : Int32) (a2 : Int32) (a3 : Int32) (a5 : Int32) (m : rf_m) : Option (Int32 × rf_m) := g_X14_adjust_191 w rec80 a1 a2 a3 a5 0 m
def g_X14_adjust_128 (w : rf_w) (rec80 : Int32 → Int32 → Int32 → Int32 → Int32 → rf_m → Option (Int32 × rf_m)) (a1 : Int32) (a2 : Int32) (a3 : Int32) (a4 : Int32) (a5 : Int32) (a6 : Int32) (a7 : Int32) (s0 : Int32) (m : rf_m) : Option (Int32 × rf_m) := (if ((s0 >>> (a7 &&& 31)) &&& 1) = 0 then g_X14_adjust_209 w rec80 a1 a2 a3 a4 a5 m else rf_g (rf_in a3 6) (rf_g (rf_in a3 6) (rf_b (g_X14_missOf w (rf_i (rf_i m 261 (Int32.toNatClampNeg a3) a7) 262 (Int32.toNatClampNeg a3) (vp_nar .boolean a6)) a7 a6) fun y2 m2 => rf_g (rf_in a3 6) ((if a4 = 0 then g_X14_adjust_190 w rec80 a1 a2 a3 a5 (rf_i m2 255 (Int32.toNatClampNeg a3) y2) else rf_g (rf_in a3 6) ((if ((rf_i m2 255 (Int32.toNatClampNeg a3) y2).1 255 (Int32.toNatClampNeg a3)) = ((-2147483648)) then g_X14_adjust_190 w rec80 a1 a2 a3 a5 (rf_i m2 255 (Int32.toNatClampNeg a3) y2) else g_X14_adjust_191 w rec80 a1 a2 a3 a5 1 (rf_i m2 255 (Int32.toNatClampNeg a3) y2))))))))
def g_X14_adjust_116 (w : rf_w) (rec80 : Int32 → Int32 → Int32 → Int32 → Int32 → rf_m → Option (Int32 × rf_m)) (a1 : Int32) (a2 : Int32) (a3 : Int32) (a4 : Int32) (a5 : Int32) (a6 : Int32) (s0 : Int32) (m : rf_m) : Option (Int32 × rf_m) := (if a6 = 0 then g_X14_adjust_128 w rec80 a1 a2 a3 a4 a5 a6 s0 a1 m else g_X14_adjust_128 w rec80 a1 a2 a3 a4 a5 a6 s0 a2 m)
def g_X14_adjust_99 (w : rf_w) (rec80 : Int32 → Int32 → Int32 → Int32 → Int32 → rf_m → Option (Int32 × rf_m)) (a1 : Int32) (a2 : Int32) (a3 : Int32) (a4 : Int32) (a5 : Int32) (s0 : Int32) (m : rf_m) : Option (Int32 × rf_m) := (if s0 = 0 then g_X14_adjust_116 w rec80 a1 a2 a3 a4 a5 s0 a5 m else g_X14_adjust_116 w rec80 a1 a2 a3 a4 a5 s0 (a5 - 30) m)
def g_X14_adjust_80_b (w : rf_w) (rec80 : Int32 → Int32 → Int32 → Int32 → Int32 → rf_m → Option (Int32 × rf_m)) (a1 : Int32) (a2 : Int32) (a3 : Int32) (a4 : Int32) (a5 : Int32) (m : rf_m) : Option (Int32 × rf_m) := (if 42 ≤ a5 then (if a4 = 0 then rf_b (g_X14_refused w m 5) fun y0 m0 => some (y0, m0) else g_X14_adjust_229 w rf_fuel a3 0 m) else (if a5 < 30 then g_X14_adjust_99 w rec80 a1 a2 a3 a4 a5 0 m else g_X14_adjust_99 w rec80 a1 a2 a3 a4 a5 1 m))
def g_X14_adjust_80 (w : rf_w) : Nat → Int32 → Int32 → Int32 → Int32 → Int32 → rf_m → Option (Int32 × rf_m)
  | 0, _, _, _, _, _, _ => none
  | n + 1, a1, a2, a3, a4, a5, m => g_X14_adjust_80_b w (g_X14_adjust_80 w n) a1 a2 a3 a4 a5 m
def g_X14_adjust_47 (w : rf_w) (a1 : Int32) (a2 : Int32) (m : rf_m) : Option (Int32 × rf_m) := rf_b (g_X14_bits w m a1) fun y0 m0 => rf_b (g_X14_bits w m0 a2) fun y1 m1 => (if (y0 + y1) ≤ 6 then rf_bv (g_X14_allMeans w m1) fun m2 => g_X14_adjust_80 w rf_fuel a1 a2 0 1 0 m2 else rf_b (g_X14_refused w m1 7) fun y3 m3 => some (y3, m3))
def g_X14_adjust (w : rf_w) (m : rf_m) (a1 : Int32) (a2 : Int32) : Option (Int32 × rf_m) := (if a1 < 0 then rf_b (g_X14_refused w (rf_i m 206 0 0) 1) fun y0 m0 => some (y0, m0) else (if ((1 : Int32) <<< (((rf_i m 206 0 0).1 206 64) &&& 31)) ≤ a1 then rf_b (g_X14_refused w (rf_i m 206 0 0) 1) fun y1 m1 => some (y1, m1) else (if a2 < 0 then rf_b (g_X14_refused w (rf_i m 206 0 0) 1) fun y2 m2 => some (y2, m2) else (if ((1 : Int32) <<< (((rf_i m 206 0 0).1 206 65) &&& 31)) ≤ a2 then rf_b (g_X14_refused w (rf_i m 206 0 0) 1) fun y3 m3 => some (y3, m3) else (if a1 = 0 then (if a2 = 0 then rf_b (g_X14_refused w (rf_i m 206 0 0) 1) fun y4 m4 => some (y4, m4) else g_X14_adjust_47 w a1 a2 (rf_i m 206 0 0)) else g_X14_adjust_47 w a1 a2 (rf_i m 206 0 0))))))
theorem s_X14_adjust_718_b {w : rf_w} {K : rf_K} {r : Int32 × rf_m} (C : rf_Ctx 14 cX14_adjust 9 10 (rf_sh w) K) (hE : rf_End (some .int) K (rf_sh w) 0 0 (some (.int r.1)) (rf_MM w r.2)) {rec718 : Int32 → Int32 → rf_m → Option (Int32 × rf_m)} (hr718 : ∀ (a5 : Int32) (a6 : Int32) (m : rf_m), rec718 a5 a6 m = some r → rf_V 9 (rf_sh w) K 0 0 718 ([(0, .ref 206), (5, .int a5), (6, .int a6)], [], rf_MM w m)) (a5 : Int32) (a6 : Int32) (m : rf_m) (hg : g_X14_adjust_718_b w rec718 a5 a6 m = some r) : rf_V 9 (rf_sh w) K 0 0 718 ([(0, .ref 206), (5, .int a5), (6, .int a6)], [], rf_MM w m) := by
  unfold g_X14_adjust_718_b at hg
  refine rf_seg C [(.iload 6, 2), (.iconst 80, 2)] (pc' := 722) (S' := ([(0, .ref 206), (5, .int a5), (6, .int a6)], [.int 80, .int a6], rf_MM w m)) (by decide +kernel) rfl trivial ?_
  refine rf_icmp_ge C 17 739 (by decide +kernel) (fun hc => ?_) (fun hc => ?_)
  · replace hg := (if_pos hc).symm.trans hg
    refine rf_seg C [(.aload 0, 1), (.iconst 1, 1), (.multianewarray 14 88, 3), (.aload 0, 1), (.iload 5, 2)] (pc' := 747) (S' := ([(0, .ref 206), (5, .int a5), (6, .int a6)], [.int a5, .ref 206], rf_MM w (rf_i m 206 88 1))) (by decide +kernel) rfl (rf_01_of (by decide)) ?_
    obtain ⟨y0, m0, hc0, hg⟩ := rf_b_some hg
    refine rf_callv C rf_fit0 j_X14_done (ci := 14) (As := [.int a5]) (rest := []) mw_X14_done (c_X14_done hc0) (by decide) rfl (by decide) lk_14_357 rfl rfl (Nat.le_of_ble_eq_true rfl) (by decide +kernel) ?_
    show rf_V 9 (rf_sh w) K 0 0 750 ([(0, .ref 206), (5, .int a5), (6, .int a6)], [.int y0], rf_MM w m0)
    obtain rfl := Option.some.inj hg
    exact rf_iret C hE (by decide +kernel)
  · replace hg := (if_neg hc).symm.trans hg
    obtain ⟨q1, hg⟩ := rf_g_some hg
    refine rf_seg C [(.aload 0, 1), (.invokeinterface 14 86, 3), (.iload 6, 2), (.iconst 0, 1), (.bastore, 1), (.iinc 6 1, 3)] (pc' := 736) (S' := ([(6, .int (a6 + 1)), (0, .ref 206), (5, .int a5)], [], rf_MM w (rf_i m 263 (Int32.toNatClampNeg a6) (vp_nar .boolean 0)))) (by decide +kernel) rfl (rf_in_of q1) ?_
    refine rf_goto C (-18) 718 (by decide +kernel) ?_
    refine rf_few [1, 2, 0] rfl ?_
    exact hr718 a5 (a6 + 1) (rf_i m 263 (Int32.toNatClampNeg a6) (vp_nar .boolean 0)) hg
theorem s_X14_adjust_718 {w : rf_w} {K : rf_K} {r : Int32 × rf_m} (C : rf_Ctx 14 cX14_adjust 9 10 (rf_sh w) K) (hE : rf_End (some .int) K (rf_sh w) 0 0 (some (.int r.1)) (rf_MM w r.2)) (n : Nat) : ∀ (a5 : Int32) (a6 : Int32) (m : rf_m), g_X14_adjust_718 w n a5 a6 m = some r → rf_V 9 (rf_sh w) K 0 0 718 ([(0, .ref 206), (5, .int a5), (6, .int a6)], [], rf_MM w m) := by
  induction n with
  | zero => intro a5 a6 m hg; cases hg
  | succ n ih => intro a5 a6 m hg; exact s_X14_adjust_718_b C hE ih a5 a6 m hg
theorem s_X14_adjust_703 {w : rf_w} {K : rf_K} {r : Int32 × rf_m} (C : rf_Ctx 14 cX14_adjust 9 10 (rf_sh w) K) (hE : rf_End (some .int) K (rf_sh w) 0 0 (some (.int r.1)) (rf_MM w r.2)) {rec557 : Int32 → Int32 → Int32 → rf_m → Option (Int32 × rf_m)} (hr557 : ∀ (a3 : Int32) (a5 : Int32) (a6 : Int32) (m : rf_m), rec557 a3 a5 a6 m = some r → rf_V 9 (rf_sh w) K 0 0 557 ([(0, .ref 206), (3, .int a3), (5, .int a5), (6, .int a6)], [], rf_MM w m)) (a3 : Int32) (a6 : Int32) (s0 : Int32) (s1 : Int32) (m : rf_m) (hg : g_X14_adjust_703 w rec557 a3 a6 s0 s1 m = some r) : rf_V 9 (rf_sh w) K 0 0 703 ([(0, .ref 206), (3, .int a3), (6, .int a6)], [.int s1, .int s0], rf_MM w m) := by
  unfold g_X14_adjust_703 at hg
  refine rf_seg C [(.iadd, 1), (.istore 5, 2), (.iinc 6 1, 3)] (pc' := 709) (S' := ([(6, .int (a6 + 1)), (5, .int (s0 + s1)), (0, .ref 206), (3, .int a3)], [], rf_MM w m)) (by decide +kernel) rfl trivial ?_
  refine rf_goto C (-152) 557 (by decide +kernel) ?_
  refine rf_few [2, 3, 1, 0] rfl ?_
  exact hr557 a3 (s0 + s1) (a6 + 1) m hg
theorem s_X14_adjust_639 {w : rf_w} {K : rf_K} {r : Int32 × rf_m} (C : rf_Ctx 14 cX14_adjust 9 10 (rf_sh w) K) (hE : rf_End (some .int) K (rf_sh w) 0 0 (some (.int r.1)) (rf_MM w r.2)) {rec557 : Int32 → Int32 → Int32 → rf_m → Option (Int32 × rf_m)} {rec590 : Int32 → Int32 → Int32 → Int32 → rf_m → Option (Int32 × rf_m)} (hr557 : ∀ (a3 : Int32) (a5 : Int32) (a6 : Int32) (m : rf_m), rec557 a3 a5 a6 m = some r → rf_V 9 (rf_sh w) K 0 0 557 ([(0, .ref 206), (3, .int a3), (5, .int a5), (6, .int a6)], [], rf_MM w m)) (hr590 : ∀ (a3 : Int32) (a5 : Int32) (a6 : Int32) (a7 : Int32) (m : rf_m), rec590 a3 a5 a6 a7 m = some r → rf_V 9 (rf_sh w) K 0 0 590 ([(0, .ref 206), (3, .int a3), (5, .int a5), (6, .int a6), (7, .int a7)], [], rf_MM w m)) (a3 : Int32) (a5 : Int32) (a6 : Int32) (a7 : Int32) (m : rf_m) (hg : g_X14_adjust_639 w rec557 rec590 a3 a5 a6 a7 m = some r) : rf_V 9 (rf_sh w) K 0 0 639 ([(0, .ref 206), (3, .int a3), (5, .int a5), (6, .int a6), (7, .int a7)], [], rf_MM w m) := by
  unfold g_X14_adjust_639 at hg
  refine rf_seg C [(.iinc 7 1, 3)] (pc' := 642) (S' := ([(7, .int (a7 + 1)), (0, .ref 206), (3, .int a3), (5, .int a5), (6, .int a6)], [], rf_MM w m)) (by decide +kernel) rfl trivial ?_
  refine rf_goto C (-52) 590 (by decide +kernel) ?_
  refine rf_few [1, 2, 3, 4, 0] rfl ?_
  exact hr590 a3 a5 a6 (a7 + 1) m hg
theorem s_X14_adjust_590_b {w : rf_w} {K : rf_K} {r : Int32 × rf_m} (C : rf_Ctx 14 cX14_adjust 9 10 (rf_sh w) K) (hE : rf_End (some .int) K (rf_sh w) 0 0 (some (.int r.1)) (rf_MM w r.2)) {rec557 : Int32 → Int32 → Int32 → rf_m → Option (Int32 × rf_m)} {rec590 : Int32 → Int32 → Int32 → Int32 → rf_m → Option (Int32 × rf_m)} (hr557 : ∀ (a3 : Int32) (a5 : Int32) (a6 : Int32) (m : rf_m), rec557 a3 a5 a6 m = some r → rf_V 9 (rf_sh w) K 0 0 557 ([(0, .ref 206), (3, .int a3), (5, .int a5), (6, .int a6)], [], rf_MM w m)) (hr590 : ∀ (a3 : Int32) (a5 : Int32) (a6 : Int32) (a7 : Int32) (m : rf_m), rec590 a3 a5 a6 a7 m = some r → rf_V 9 (rf_sh w) K 0 0 590 ([(0, .ref 206), (3, .int a3), (5, .int a5), (6, .int a6), (7, .int a7)], [], rf_MM w m)) (a3 : Int32) (a5 : Int32) (a6 : Int32) (a7 : Int32) (m : rf_m) (hg : g_X14_adjust_590_b w rec557 rec590 a3 a5 a6 a7 m = some r) : rf_V 9 (rf_sh w) K 0 0 590 ([(0, .ref 206), (3, .int a3), (5, .int a5), (6, .int a6), (7, .int a7)], [], rf_MM w m) := by
  unfold g_X14_adjust_590_b at hg
  refine rf_seg C [(.iload 7, 2), (.iload 3, 1)] (pc' := 593) (S' := ([(0, .ref 206), (3, .int a3), (5, .int a5), (6, .int a6), (7, .int a7)], [.int a3, .int a7], rf_MM w m)) (by decide +kernel) rfl trivial ?_
  refine rf_icmp_ge C 52 645 (by decide +kernel) (fun hc => ?_) (fun hc => ?_)
  · replace hg := (if_pos hc).symm.trans hg
    obtain ⟨q0, hg⟩ := rf_g_some hg
    refine rf_seg C [(.aload 0, 1), (.invokeinterface 14 80, 3), (.iconst 0, 1), (.aload 0, 1), (.invokeinterface 14 87, 3), (.iconst 6, 2), (.iload 6, 2), (.imul, 1), (.aload 0, 1), (.invokeinterface 14 90, 3), (.iload 6, 2), (.iaload, 1)] (pc' := 666) (S' := ([(0, .ref 206), (3, .int a3), (5, .int a5), (6, .int a6), (7, .int a7)], [.int (m.1 265 (Int32.toNatClampNeg a6)), .int (6 * a6), .ref 264, .int 0, .ref 257], rf_MM w m)) (by decide +kernel) rfl (rf_in_of q0) ?_
    obtain ⟨m1, hc1, hg⟩ := rf_bv_some hg
    refine rf_calls C rf_fit0 j_X14_times__257_264 (As := [.ref 257, .int 0, .ref 264, .int (6 * a6), .int (m.1 265 (Int32.toNatClampNeg a6))]) (rest := []) mw_X14_times__257_264 (c_X14_times__257_264 hc1) (by decide) lk_14_770 rfl rfl (Nat.le_of_ble_eq_true rfl) (by decide +kernel) ?_
    show rf_V 9 (rf_sh w) K 0 0 669 ([(0, .ref 206), (3, .int a3), (5, .int a5), (6, .int a6), (7, .int a7)], [], rf_MM w m1)
    refine rf_seg C [(.aload 0, 1), (.invokeinterface 14 87, 3), (.iconst 6, 2), (.iload 6, 2), (.imul, 1), (.aload 0, 1), (.invokeinterface 14 80, 3), (.iconst 0, 1)] (pc' := 683) (S' := ([(0, .ref 206), (3, .int a3), (5, .int a5), (6, .int a6), (7, .int a7)], [.int 0, .ref 257, .int (6 * a6), .ref 264], rf_MM w m1)) (by decide +kernel) rfl trivial ?_
    obtain ⟨m2, hc2, hg⟩ := rf_bv_some hg
    refine rf_calls C rf_fit0 j_X14_copies__264_257 (As := [.ref 264, .int (6 * a6), .ref 257, .int 0]) (rest := []) mw_X14_copies__264_257 (c_X14_copies__264_257 hc2) (by decide) lk_14_744 rfl rfl (Nat.le_of_ble_eq_true rfl) (by decide +kernel) ?_
    show rf_V 9 (rf_sh w) K 0 0 686 ([(0, .ref 206), (3, .int a3), (5, .int a5), (6, .int a6), (7, .int a7)], [], rf_MM w m2)
    obtain ⟨q3, hg⟩ := rf_g_some hg
    refine rf_seg C [(.iload 5, 2), (.aload 0, 1), (.invokeinterface 14 86, 3), (.iload 6, 2), (.baload, 1)] (pc' := 695) (S' := ([(0, .ref 206), (3, .int a3), (5, .int a5), (6, .int a6), (7, .int a7)], [.int (m2.1 263 (Int32.toNatClampNeg a6)), .int a5], rf_MM w m2)) (by decide +kernel) rfl (rf_in_of q3) ?_
    refine rf_if_eq C 7 702 (by decide +kernel) (fun hc => ?_) (fun hc => ?_)
    · replace hg := (if_pos hc).symm.trans hg
      refine rf_seg C [(.iconst 0, 1)] (pc' := 703) (S' := ([(0, .ref 206), (3, .int a3), (5, .int a5), (6, .int a6), (7, .int a7)], [.int 0, .int a5], rf_MM w m2)) (by decide +kernel) rfl trivial ?_
      refine rf_few [0, 1, 3] rfl ?_
      exact s_X14_adjust_703 C hE hr557 a3 a6 a5 0 m2 hg
    · replace hg := (if_neg hc).symm.trans hg
      refine rf_seg C [(.iconst 1, 1)] (pc' := 699) (S' := ([(0, .ref 206), (3, .int a3), (5, .int a5), (6, .int a6), (7, .int a7)], [.int 1, .int a5], rf_MM w m2)) (by decide +kernel) rfl trivial ?_
      refine rf_goto C 4 703 (by decide +kernel) ?_
      refine rf_few [0, 1, 3] rfl ?_
      exact s_X14_adjust_703 C hE hr557 a3 a6 a5 1 m2 hg
  · replace hg := (if_neg hc).symm.trans hg
    refine rf_seg C [(.aload 0, 1), (.iload 7, 2), (.iload 6, 2)] (pc' := 601) (S' := ([(0, .ref 206), (3, .int a3), (5, .int a5), (6, .int a6), (7, .int a7)], [.int a6, .int a7, .ref 206], rf_MM w m)) (by decide +kernel) rfl trivial ?_
    obtain ⟨y4, m4, hc4, hg⟩ := rf_b_some hg
    refine rf_callv C rf_fit0 j_X14_isPartOf (ci := 14) (As := [.int a7, .int a6]) (rest := []) mw_X14_isPartOf (c_X14_isPartOf hc4) (by decide) rfl (by decide) lk_14_774 rfl rfl (Nat.le_of_ble_eq_true rfl) (by decide +kernel) ?_
    show rf_V 9 (rf_sh w) K 0 0 604 ([(0, .ref 206), (3, .int a3), (5, .int a5), (6, .int a6), (7, .int a7)], [.int y4], rf_MM w m4)
    refine rf_if_ne C 6 610 (by decide +kernel) (fun hc => ?_) (fun hc => ?_)
    · replace hg := (if_neg hc).symm.trans hg
      obtain ⟨q5, hg⟩ := rf_g_some hg
      refine rf_seg C [(.aload 0, 1), (.invokeinterface 14 86, 3), (.iload 6, 2), (.iconst 1, 1), (.bastore, 1), (.aload 0, 1), (.invokeinterface 14 87, 3), (.iconst 6, 2), (.iload 6, 2), (.imul, 1), (.aload 0, 1), (.invokeinterface 14 81, 3), (.iconst 6, 2), (.iload 7, 2), (.imul, 1)] (pc' := 636) (S' := ([(0, .ref 206), (3, .int a3), (5, .int a5), (6, .int a6), (7, .int a7)], [.int (6 * a7), .ref 258, .int (6 * a6), .ref 264], rf_MM w (rf_i m4 263 (Int32.toNatClampNeg a6) (vp_nar .boolean 1)))) (by decide +kernel) rfl (rf_in_of q5) ?_
      obtain ⟨m6, hc6, hg⟩ := rf_bv_some hg
      refine rf_calls C rf_fit0 j_X14_adds__264_258 (As := [.ref 264, .int (6 * a6), .ref 258, .int (6 * a7)]) (rest := []) mw_X14_adds__264_258 (c_X14_adds__264_258 hc6) (by decide) lk_14_748 rfl rfl (Nat.le_of_ble_eq_true rfl) (by decide +kernel) ?_
      show rf_V 9 (rf_sh w) K 0 0 639 ([(0, .ref 206), (3, .int a3), (5, .int a5), (6, .int a6), (7, .int a7)], [], rf_MM w m6)
      refine rf_few [0, 1, 2, 3, 4] rfl ?_
      exact s_X14_adjust_639 C hE hr557 hr590 a3 a5 a6 a7 m6 hg
    · replace hg := (if_pos hc).symm.trans hg
      refine rf_goto C 32 639 (by decide +kernel) ?_
      refine rf_few [0, 1, 2, 3, 4] rfl ?_
      exact s_X14_adjust_639 C hE hr557 hr590 a3 a5 a6 a7 m4 hg
theorem s_X14_adjust_590 {w : rf_w} {K : rf_K} {r : Int32 × rf_m} (C : rf_Ctx 14 cX14_adjust 9 10 (rf_sh w) K) (hE : rf_End (some .int) K (rf_sh w) 0 0 (some (.int r.1)) (rf_MM w r.2)) {rec557 : Int32 → Int32 → Int32 → rf_m → Option (Int32 × rf_m)} (hr557 : ∀ (a3 : Int32) (a5 : Int32) (a6 : Int32) (m : rf_m), rec557 a3 a5 a6 m = some r → rf_V 9 (rf_sh w) K 0 0 557 ([(0, .ref 206), (3, .int a3), (5, .int a5), (6, .int a6)], [], rf_MM w m)) (n : Nat) : ∀ (a3 : Int32) (a5 : Int32) (a6 : Int32) (a7 : Int32) (m : rf_m), g_X14_adjust_590 w rec557 n a3 a5 a6 a7 m = some r → rf_V 9 (rf_sh w) K 0 0 590 ([(0, .ref 206), (3, .int a3), (5, .int a5), (6, .int a6), (7, .int a7)], [], rf_MM w m) := by
  induction n with
  | zero => intro a3 a5 a6 a7 m hg; cases hg
  | succ n ih => intro a3 a5 a6 a7 m hg; exact s_X14_adjust_590_b C hE hr557 ih a3 a5 a6 a7 m hg
theorem s_X14_adjust_557_b {w : rf_w} {K : rf_K} {r : Int32 × rf_m} (C : rf_Ctx 14 cX14_adjust 9 10 (rf_sh w) K) (hE : rf_End (some .int) K (rf_sh w) 0 0 (some (.int r.1)) (rf_MM w r.2)) {rec557 : Int32 → Int32 → Int32 → rf_m → Option (Int32 × rf_m)} (hr557 : ∀ (a3 : Int32) (a5 : Int32) (a6 : Int32) (m : rf_m), rec557 a3 a5 a6 m = some r → rf_V 9 (rf_sh w) K 0 0 557 ([(0, .ref 206), (3, .int a3), (5, .int a5), (6, .int a6)], [], rf_MM w m)) (a3 : Int32) (a5 : Int32) (a6 : Int32) (m : rf_m) (hg : g_X14_adjust_557_b w rec557 a3 a5 a6 m = some r) : rf_V 9 (rf_sh w) K 0 0 557 ([(0, .ref 206), (3, .int a3), (5, .int a5), (6, .int a6)], [], rf_MM w m) := by
  unfold g_X14_adjust_557_b at hg
  refine rf_seg C [(.iload 6, 2), (.aload 0, 1), (.invokeinterface 14 16, 3)] (pc' := 563) (S' := ([(0, .ref 206), (3, .int a3), (5, .int a5), (6, .int a6)], [.int (m.1 206 16), .int a6], rf_MM w m)) (by decide +kernel) rfl trivial ?_
  refine rf_icmp_ge C 149 712 (by decide +kernel) (fun hc => ?_) (fun hc => ?_)
  · replace hg := (if_pos hc).symm.trans hg
    refine rf_seg C [(.aload 0, 1), (.invokeinterface 14 16, 3), (.istore 6, 2)] (pc' := 718) (S' := ([(6, .int (m.1 206 16)), (0, .ref 206), (3, .int a3), (5, .int a5)], [], rf_MM w m)) (by decide +kernel) rfl trivial ?_
    refine rf_few [1, 3, 0] rfl ?_
    exact s_X14_adjust_718 C hE rf_fuel a5 (m.1 206 16) m hg
  · replace hg := (if_neg hc).symm.trans hg
    refine rf_seg C [(.aload 0, 1), (.invokeinterface 14 87, 3), (.iconst 6, 2), (.iload 6, 2), (.imul, 1), (.goto_w 0, 1)] (pc' := 576) (S' := ([(0, .ref 206), (3, .int a3), (5, .int a5), (6, .int a6)], [.long 0, .int (6 * a6), .ref 264], rf_MM w m)) (by decide +kernel) rfl trivial ?_
    obtain ⟨m0, hc0, hg⟩ := rf_bv_some hg
    refine rf_calls C rf_fit0 j_X14_set__264 (As := [.ref 264, .int (6 * a6), .long 0]) (rest := []) mw_X14_set__264 (c_X14_set__264 hc0) (by decide) lk_14_740 rfl rfl (Nat.le_of_ble_eq_true rfl) (by decide +kernel) ?_
    show rf_V 9 (rf_sh w) K 0 0 579 ([(0, .ref 206), (3, .int a3), (5, .int a5), (6, .int a6)], [], rf_MM w m0)
    obtain ⟨q1, hg⟩ := rf_g_some hg
    refine rf_seg C [(.aload 0, 1), (.invokeinterface 14 86, 3), (.iload 6, 2), (.iconst 0, 1), (.bastore, 1), (.iconst 0, 1), (.istore 7, 2)] (pc' := 590) (S' := ([(7, .int 0), (0, .ref 206), (3, .int a3), (5, .int a5), (6, .int a6)], [], rf_MM w (rf_i m0 263 (Int32.toNatClampNeg a6) (vp_nar .boolean 0)))) (by decide +kernel) rfl (rf_in_of q1) ?_
    refine rf_few [1, 2, 3, 4, 0] rfl ?_
    exact s_X14_adjust_590 C hE hr557 rf_fuel a3 a5 a6 0 (rf_i m0 263 (Int32.toNatClampNeg a6) (vp_nar .boolean 0)) hg
theorem s_X14_adjust_557 {w : rf_w} {K : rf_K} {r : Int32 × rf_m} (C : rf_Ctx 14 cX14_adjust 9 10 (rf_sh w) K) (hE : rf_End (some .int) K (rf_sh w) 0 0 (some (.int r.1)) (rf_MM w r.2)) (n : Nat) : ∀ (a3 : Int32) (a5 : Int32) (a6 : Int32) (m : rf_m), g_X14_adjust_557 w n a3 a5 a6 m = some r → rf_V 9 (rf_sh w) K 0 0 557 ([(0, .ref 206), (3, .int a3), (5, .int a5), (6, .int a6)], [], rf_MM w m) := by
  induction n with
  | zero => intro a3 a5 a6 m hg; cases hg
  | succ n ih => intro a3 a5 a6 m hg; exact s_X14_adjust_557_b C hE ih a3 a5 a6 m hg
theorem s_X14_adjust_548 {w : rf_w} {K : rf_K} {r : Int32 × rf_m} (C : rf_Ctx 14 cX14_adjust 9 10 (rf_sh w) K) (hE : rf_End (some .int) K (rf_sh w) 0 0 (some (.int r.1)) (rf_MM w r.2)) (a3 : Int32) (s1 : Int64) (m : rf_m) (hg : g_X14_adjust_548 w a3 s1 m = some r) : rf_V 9 (rf_sh w) K 0 0 548 ([(0, .ref 206), (3, .int a3)], [.long s1, .ref 206], rf_MM w m) := by
  unfold g_X14_adjust_548 at hg
  refine rf_seg C [(.multianewarray 14 89, 3), (.iconst 0, 1), (.istore 5, 2), (.iconst 0, 1), (.istore 6, 2)] (pc' := 557) (S' := ([(6, .int 0), (5, .int 0), (0, .ref 206), (3, .int a3)], [], rf_MM w (rf_l m 206 89 s1))) (by decide +kernel) rfl trivial ?_
  refine rf_few [2, 3, 1, 0] rfl ?_
  exact s_X14_adjust_557 C hE rf_fuel a3 0 0 (rf_l m 206 89 s1) hg
theorem s_X14_adjust_432_b {w : rf_w} {K : rf_K} {r : Int32 × rf_m} (C : rf_Ctx 14 cX14_adjust 9 10 (rf_sh w) K) (hE : rf_End (some .int) K (rf_sh w) 0 0 (some (.int r.1)) (rf_MM w r.2)) {rec432 : Int32 → Int32 → rf_m → Option (Int32 × rf_m)} (hr432 : ∀ (a3 : Int32) (a5 : Int32) (m : rf_m), rec432 a3 a5 m = some r → rf_V 9 (rf_sh w) K 0 0 432 ([(0, .ref 206), (3, .int a3), (5, .int a5)], [], rf_MM w m)) (a3 : Int32) (a5 : Int32) (m : rf_m) (hg : g_X14_adjust_432_b w rec432 a3 a5 m = some r) : rf_V 9 (rf_sh w) K 0 0 432 ([(0, .ref 206), (3, .int a3), (5, .int a5)], [], rf_MM w m) := by
  unfold g_X14_adjust_432_b at hg
  refine rf_seg C [(.iload 5, 2), (.iload 3, 1)] (pc' := 435) (S' := ([(0, .ref 206), (3, .int a3), (5, .int a5)], [.int a3, .int a5], rf_MM w m)) (by decide +kernel) rfl trivial ?_
  refine rf_icmp_ge C 62 497 (by decide +kernel) (fun hc => ?_) (fun hc => ?_)
  · replace hg := (if_pos hc).symm.trans hg
    refine rf_seg C [(.aload 0, 1), (.invokeinterface 14 80, 3), (.iconst 0, 1), (.aload 0, 1), (.invokeinterface 14 75, 3), (.iconst 0, 1), (.iconst 2520000, 3)] (pc' := 510) (S' := ([(0, .ref 206), (3, .int a3), (5, .int a5)], [.int 2520000, .int 0, .ref 252, .int 0, .ref 257], rf_MM w m)) (by decide +kernel) rfl trivial ?_
    obtain ⟨m0, hc0, hg⟩ := rf_bv_some hg
    refine rf_calls C rf_fit0 j_X14_times__257_252 (As := [.ref 257, .int 0, .ref 252, .int 0, .int 2520000]) (rest := []) mw_X14_times__257_252 (c_X14_times__257_252 hc0) (by decide) lk_14_770 rfl rfl (Nat.le_of_ble_eq_true rfl) (by decide +kernel) ?_
    show rf_V 9 (rf_sh w) K 0 0 513 ([(0, .ref 206), (3, .int a3), (5, .int a5)], [], rf_MM w m0)
    refine rf_seg C [(.aload 0, 1), (.invokeinterface 14 75, 3), (.iconst 0, 1), (.aload 0, 1), (.invokeinterface 14 80, 3), (.iconst 0, 1)] (pc' := 523) (S' := ([(0, .ref 206), (3, .int a3), (5, .int a5)], [.int 0, .ref 257, .int 0, .ref 252], rf_MM w m0)) (by decide +kernel) rfl trivial ?_
    obtain ⟨m1, hc1, hg⟩ := rf_bv_some hg
    refine rf_calls C rf_fit0 j_X14_copies__252_257 (As := [.ref 252, .int 0, .ref 257, .int 0]) (rest := []) mw_X14_copies__252_257 (c_X14_copies__252_257 hc1) (by decide) lk_14_744 rfl rfl (Nat.le_of_ble_eq_true rfl) (by decide +kernel) ?_
    show rf_V 9 (rf_sh w) K 0 0 526 ([(0, .ref 206), (3, .int a3), (5, .int a5)], [], rf_MM w m1)
    refine rf_seg C [(.aload 0, 1)] (pc' := 527) (S' := ([(0, .ref 206), (3, .int a3), (5, .int a5)], [.ref 206], rf_MM w m1)) (by decide +kernel) rfl trivial ?_
    obtain ⟨m2, hc2, hg⟩ := rf_bv_some hg
    refine rf_callv C rf_fit0 j_X14_floors (ci := 14) (As := []) (rest := []) mw_X14_floors (c_X14_floors hc2) (by decide) rfl (by decide) lk_14_782 rfl rfl (Nat.le_of_ble_eq_true rfl) (by decide +kernel) ?_
    show rf_V 9 (rf_sh w) K 0 0 530 ([(0, .ref 206), (3, .int a3), (5, .int a5)], [], rf_MM w m2)
    refine rf_seg C [(.aload 0, 1), (.aload 0, 1)] (pc' := 532) (S' := ([(0, .ref 206), (3, .int a3), (5, .int a5)], [.ref 206, .ref 206], rf_MM w m2)) (by decide +kernel) rfl trivial ?_
    obtain ⟨y3, m3, hc3, hg⟩ := rf_b_some hg
    refine rf_callv C rf_fit0 j_X14_isLong (ci := 14) (As := []) (rest := [.ref 206]) mw_X14_isLong (c_X14_isLong hc3) (by decide) rfl (by decide) lk_14_785 rfl rfl (Nat.le_of_ble_eq_true rfl) (by decide +kernel) ?_
    show rf_V 9 (rf_sh w) K 0 0 535 ([(0, .ref 206), (3, .int a3), (5, .int a5)], [.int y3, .ref 206], rf_MM w m3)
    refine rf_if_eq C 10 545 (by decide +kernel) (fun hc => ?_) (fun hc => ?_)
    · replace hg := (if_pos hc).symm.trans hg
      refine rf_seg C [(.goto_w (-9223372036854775808), 3)] (pc' := 548) (S' := ([(0, .ref 206), (3, .int a3), (5, .int a5)], [.long ((-9223372036854775808)), .ref 206], rf_MM w m3)) (by decide +kernel) rfl trivial ?_
      refine rf_few [0, 1] rfl ?_
      exact s_X14_adjust_548 C hE a3 ((-9223372036854775808)) m3 hg
    · replace hg := (if_neg hc).symm.trans hg
      refine rf_seg C [(.aload 0, 1)] (pc' := 539) (S' := ([(0, .ref 206), (3, .int a3), (5, .int a5)], [.ref 206, .ref 206], rf_MM w m3)) (by decide +kernel) rfl trivial ?_
      obtain ⟨y4, m4, hc4, hg⟩ := rf_b_some hg
      refine rf_callv C rf_fit0 j_X14_quotientLong (ci := 14) (As := []) (rest := [.ref 206]) mw_X14_quotientLong (c_X14_quotientLong hc4) (by decide) rfl (by decide) lk_14_788 rfl rfl (Nat.le_of_ble_eq_true rfl) (by decide +kernel) ?_
      show rf_V 9 (rf_sh w) K 0 0 542 ([(0, .ref 206), (3, .int a3), (5, .int a5)], [.long y4, .ref 206], rf_MM w m4)
      refine rf_goto C 6 548 (by decide +kernel) ?_
      refine rf_few [0, 1] rfl ?_
      exact s_X14_adjust_548 C hE a3 y4 m4 hg
  · replace hg := (if_neg hc).symm.trans hg
    refine rf_seg C [(.aload 0, 1), (.iload 3, 1), (.iload 5, 2), (.aload 0, 1), (.invokeinterface 14 81, 3), (.iconst 6, 2), (.iload 5, 2), (.imul, 1)] (pc' := 451) (S' := ([(0, .ref 206), (3, .int a3), (5, .int a5)], [.int (6 * a5), .ref 258, .int a5, .int a3, .ref 206], rf_MM w m)) (by decide +kernel) rfl trivial ?_
    obtain ⟨m5, hc5, hg⟩ := rf_bv_some hg
    refine rf_callv C rf_fit0 j_X14_determinant__258 (ci := 14) (As := [.int a3, .int a5, .ref 258, .int (6 * a5)]) (rest := []) mw_X14_determinant__258 (c_X14_determinant__258 hc5) (by decide) rfl (by decide) lk_14_777 rfl rfl (Nat.le_of_ble_eq_true rfl) (by decide +kernel) ?_
    show rf_V 9 (rf_sh w) K 0 0 454 ([(0, .ref 206), (3, .int a3), (5, .int a5)], [], rf_MM w m5)
    obtain ⟨q6, hg⟩ := rf_g_some hg
    refine rf_seg C [(.aload 0, 1), (.invokeinterface 14 80, 3), (.iconst 0, 1), (.aload 0, 1), (.invokeinterface 14 81, 3), (.iconst 6, 2), (.iload 5, 2), (.imul, 1), (.aload 0, 1), (.invokeinterface 14 78, 3), (.iload 5, 2), (.iaload, 1)] (pc' := 475) (S' := ([(0, .ref 206), (3, .int a3), (5, .int a5)], [.int (m5.1 255 (Int32.toNatClampNeg a5)), .int (6 * a5), .ref 258, .int 0, .ref 257], rf_MM w m5)) (by decide +kernel) rfl (rf_in_of q6) ?_
    obtain ⟨m7, hc7, hg⟩ := rf_bv_some hg
    refine rf_calls C rf_fit0 j_X14_times__257_258 (As := [.ref 257, .int 0, .ref 258, .int (6 * a5), .int (m5.1 255 (Int32.toNatClampNeg a5))]) (rest := []) mw_X14_times__257_258 (c_X14_times__257_258 hc7) (by decide) lk_14_770 rfl rfl (Nat.le_of_ble_eq_true rfl) (by decide +kernel) ?_
    show rf_V 9 (rf_sh w) K 0 0 478 ([(0, .ref 206), (3, .int a3), (5, .int a5)], [], rf_MM w m7)
    refine rf_seg C [(.aload 0, 1), (.invokeinterface 14 75, 3), (.iconst 0, 1), (.aload 0, 1), (.invokeinterface 14 80, 3), (.iconst 0, 1)] (pc' := 488) (S' := ([(0, .ref 206), (3, .int a3), (5, .int a5)], [.int 0, .ref 257, .int 0, .ref 252], rf_MM w m7)) (by decide +kernel) rfl trivial ?_
    obtain ⟨m8, hc8, hg⟩ := rf_bv_some hg
    refine rf_calls C rf_fit0 j_X14_adds__252_257 (As := [.ref 252, .int 0, .ref 257, .int 0]) (rest := []) mw_X14_adds__252_257 (c_X14_adds__252_257 hc8) (by decide) lk_14_748 rfl rfl (Nat.le_of_ble_eq_true rfl) (by decide +kernel) ?_
    show rf_V 9 (rf_sh w) K 0 0 491 ([(0, .ref 206), (3, .int a3), (5, .int a5)], [], rf_MM w m8)
    refine rf_seg C [(.iinc 5 1, 3)] (pc' := 494) (S' := ([(5, .int (a5 + 1)), (0, .ref 206), (3, .int a3)], [], rf_MM w m8)) (by decide +kernel) rfl trivial ?_
    refine rf_goto C (-62) 432 (by decide +kernel) ?_
    refine rf_few [1, 2, 0] rfl ?_
    exact hr432 a3 (a5 + 1) m8 hg
theorem s_X14_adjust_432 {w : rf_w} {K : rf_K} {r : Int32 × rf_m} (C : rf_Ctx 14 cX14_adjust 9 10 (rf_sh w) K) (hE : rf_End (some .int) K (rf_sh w) 0 0 (some (.int r.1)) (rf_MM w r.2)) (n : Nat) : ∀ (a3 : Int32) (a5 : Int32) (m : rf_m), g_X14_adjust_432 w n a3 a5 m = some r → rf_V 9 (rf_sh w) K 0 0 432 ([(0, .ref 206), (3, .int a3), (5, .int a5)], [], rf_MM w m) := by
  induction n with
  | zero => intro a3 a5 m hg; cases hg
  | succ n ih => intro a3 a5 m hg; exact s_X14_adjust_432_b C hE ih a3 a5 m hg
theorem s_X14_adjust_329 {w : rf_w} {K : rf_K} {r : Int32 × rf_m} (C : rf_Ctx 14 cX14_adjust 9 10 (rf_sh w) K) (hE : rf_End (some .int) K (rf_sh w) 0 0 (some (.int r.1)) (rf_MM w r.2)) {rec264 : Int32 → Int32 → rf_m → Option (Int32 × rf_m)} {rec273 : Int32 → Int32 → Int32 → rf_m → Option (Int32 × rf_m)} {rec285 : Int32 → Int32 → Int32 → Int32 → Int32 → rf_m → Option (Int32 × rf_m)} (hr264 : ∀ (a3 : Int32) (a5 : Int32) (m : rf_m), rec264 a3 a5 m = some r → rf_V 9 (rf_sh w) K 0 0 264 ([(0, .ref 206), (3, .int a3), (5, .int a5)], [], rf_MM w m)) (hr273 : ∀ (a3 : Int32) (a5 : Int32) (a6 : Int32) (m : rf_m), rec273 a3 a5 a6 m = some r → rf_V 9 (rf_sh w) K 0 0 273 ([(0, .ref 206), (3, .int a3), (5, .int a5), (6, .int a6)], [], rf_MM w m)) (hr285 : ∀ (a3 : Int32) (a5 : Int32) (a6 : Int32) (a7 : Int32) (a8 : Int32) (m : rf_m), rec285 a3 a5 a6 a7 a8 m = some r → rf_V 9 (rf_sh w) K 0 0 285 ([(0, .ref 206), (3, .int a3), (5, .int a5), (6, .int a6), (7, .int a7), (8, .int a8)], [], rf_MM w m)) (a3 : Int32) (a5 : Int32) (a6 : Int32) (a8 : Int32) (s0 : Int32) (s1 : Int32) (m : rf_m) (hg : g_X14_adjust_329 w rec264 rec273 rec285 a3 a5 a6 a8 s0 s1 m = some r) : rf_V 9 (rf_sh w) K 0 0 329 ([(0, .ref 206), (3, .int a3), (5, .int a5), (6, .int a6), (8, .int a8)], [.int s1, .int s0], rf_MM w m) := by
  unfold g_X14_adjust_329 at hg
  refine rf_seg C [(.iadd, 1), (.istore 7, 2), (.iinc 8 1, 3)] (pc' := 335) (S' := ([(8, .int (a8 + 1)), (7, .int (s0 + s1)), (0, .ref 206), (3, .int a3), (5, .int a5), (6, .int a6)], [], rf_MM w m)) (by decide +kernel) rfl trivial ?_
  refine rf_goto C (-50) 285 (by decide +kernel) ?_
  refine rf_few [2, 3, 4, 5, 1, 0] rfl ?_
  exact hr285 a3 a5 a6 (s0 + s1) (a8 + 1) m hg
theorem s_X14_adjust_328 {w : rf_w} {K : rf_K} {r : Int32 × rf_m} (C : rf_Ctx 14 cX14_adjust 9 10 (rf_sh w) K) (hE : rf_End (some .int) K (rf_sh w) 0 0 (some (.int r.1)) (rf_MM w r.2)) {rec264 : Int32 → Int32 → rf_m → Option (Int32 × rf_m)} {rec273 : Int32 → Int32 → Int32 → rf_m → Option (Int32 × rf_m)} {rec285 : Int32 → Int32 → Int32 → Int32 → Int32 → rf_m → Option (Int32 × rf_m)} (hr264 : ∀ (a3 : Int32) (a5 : Int32) (m : rf_m), rec264 a3 a5 m = some r → rf_V 9 (rf_sh w) K 0 0 264 ([(0, .ref 206), (3, .int a3), (5, .int a5)], [], rf_MM w m)) (hr273 : ∀ (a3 : Int32) (a5 : Int32) (a6 : Int32) (m : rf_m), rec273 a3 a5 a6 m = some r → rf_V 9 (rf_sh w) K 0 0 273 ([(0, .ref 206), (3, .int a3), (5, .int a5), (6, .int a6)], [], rf_MM w m)) (hr285 : ∀ (a3 : Int32) (a5 : Int32) (a6 : Int32) (a7 : Int32) (a8 : Int32) (m : rf_m), rec285 a3 a5 a6 a7 a8 m = some r → rf_V 9 (rf_sh w) K 0 0 285 ([(0, .ref 206), (3, .int a3), (5, .int a5), (6, .int a6), (7, .int a7), (8, .int a8)], [], rf_MM w m)) (a3 : Int32) (a5 : Int32) (a6 : Int32) (a8 : Int32) (s0 : Int32) (m : rf_m) (hg : g_X14_adjust_328 w rec264 rec273 rec285 a3 a5 a6 a8 s0 m = some r) : rf_V 9 (rf_sh w) K 0 0 328 ([(0, .ref 206), (3, .int a3), (5, .int a5), (6, .int a6), (8, .int a8)], [.int s0], rf_MM w m) := by
  unfold g_X14_adjust_328 at hg
  refine rf_seg C [(.iconst 0, 1)] (pc' := 329) (S' := ([(0, .ref 206), (3, .int a3), (5, .int a5), (6, .int a6), (8, .int a8)], [.int 0, .int s0], rf_MM w m)) (by decide +kernel) rfl trivial ?_
  refine rf_few [0, 1, 2, 3, 4] rfl ?_
  exact s_X14_adjust_329 C hE hr264 hr273 hr285 a3 a5 a6 a8 s0 0 m hg
theorem s_X14_adjust_285_b {w : rf_w} {K : rf_K} {r : Int32 × rf_m} (C : rf_Ctx 14 cX14_adjust 9 10 (rf_sh w) K) (hE : rf_End (some .int) K (rf_sh w) 0 0 (some (.int r.1)) (rf_MM w r.2)) {rec264 : Int32 → Int32 → rf_m → Option (Int32 × rf_m)} {rec273 : Int32 → Int32 → Int32 → rf_m → Option (Int32 × rf_m)} {rec285 : Int32 → Int32 → Int32 → Int32 → Int32 → rf_m → Option (Int32 × rf_m)} (hr264 : ∀ (a3 : Int32) (a5 : Int32) (m : rf_m), rec264 a3 a5 m = some r → rf_V 9 (rf_sh w) K 0 0 264 ([(0, .ref 206), (3, .int a3), (5, .int a5)], [], rf_MM w m)) (hr273 : ∀ (a3 : Int32) (a5 : Int32) (a6 : Int32) (m : rf_m), rec273 a3 a5 a6 m = some r → rf_V 9 (rf_sh w) K 0 0 273 ([(0, .ref 206), (3, .int a3), (5, .int a5), (6, .int a6)], [], rf_MM w m)) (hr285 : ∀ (a3 : Int32) (a5 : Int32) (a6 : Int32) (a7 : Int32) (a8 : Int32) (m : rf_m), rec285 a3 a5 a6 a7 a8 m = some r → rf_V 9 (rf_sh w) K 0 0 285 ([(0, .ref 206), (3, .int a3), (5, .int a5), (6, .int a6), (7, .int a7), (8, .int a8)], [], rf_MM w m)) (a3 : Int32) (a5 : Int32) (a6 : Int32) (a7 : Int32) (a8 : Int32) (m : rf_m) (hg : g_X14_adjust_285_b w rec264 rec273 rec285 a3 a5 a6 a7 a8 m = some r) : rf_V 9 (rf_sh w) K 0 0 285 ([(0, .ref 206), (3, .int a3), (5, .int a5), (6, .int a6), (7, .int a7), (8, .int a8)], [], rf_MM w m) := by
  unfold g_X14_adjust_285_b at hg
  refine rf_seg C [(.iload 8, 2), (.aload 0, 1), (.invokeinterface 14 16, 3)] (pc' := 291) (S' := ([(0, .ref 206), (3, .int a3), (5, .int a5), (6, .int a6), (7, .int a7), (8, .int a8)], [.int (m.1 206 16), .int a8], rf_MM w m)) (by decide +kernel) rfl trivial ?_
  refine rf_icmp_ge C 47 338 (by decide +kernel) (fun hc => ?_) (fun hc => ?_)
  · replace hg := (if_pos hc).symm.trans hg
    obtain ⟨q0, hg⟩ := rf_g_some hg
    refine rf_seg C [(.aload 0, 1), (.invokeinterface 14 77, 3), (.iconst 6, 2), (.iload 5, 2), (.imul, 1), (.iload 6, 2), (.iadd, 1), (.iload 7, 2), (.iastore, 1), (.iinc 6 1, 3)] (pc' := 356) (S' := ([(6, .int (a6 + 1)), (0, .ref 206), (3, .int a3), (5, .int a5), (7, .int a7), (8, .int a8)], [], rf_MM w (rf_i m 254 (Int32.toNatClampNeg ((6 * a5) + a6)) a7))) (by decide +kernel) rfl (rf_in_of q0) ?_
    refine rf_goto C (-83) 273 (by decide +kernel) ?_
    refine rf_few [1, 2, 3, 0] rfl ?_
    exact hr273 a3 a5 (a6 + 1) (rf_i m 254 (Int32.toNatClampNeg ((6 * a5) + a6)) a7) hg
  · replace hg := (if_neg hc).symm.trans hg
    refine rf_seg C [(.iload 7, 2), (.aload 0, 1), (.iload 5, 2), (.iload 8, 2)] (pc' := 301) (S' := ([(0, .ref 206), (3, .int a3), (5, .int a5), (6, .int a6), (7, .int a7), (8, .int a8)], [.int a8, .int a5, .ref 206, .int a7], rf_MM w m)) (by decide +kernel) rfl trivial ?_
    obtain ⟨y1, m1, hc1, hg⟩ := rf_b_some hg
    refine rf_callv C rf_fit0 j_X14_isPartOf (ci := 14) (As := [.int a5, .int a8]) (rest := [.int a7]) mw_X14_isPartOf (c_X14_isPartOf hc1) (by decide) rfl (by decide) lk_14_774 rfl rfl (Nat.le_of_ble_eq_true rfl) (by decide +kernel) ?_
    show rf_V 9 (rf_sh w) K 0 0 304 ([(0, .ref 206), (3, .int a3), (5, .int a5), (6, .int a6), (7, .int a7), (8, .int a8)], [.int y1, .int a7], rf_MM w m1)
    refine rf_if_eq C 24 328 (by decide +kernel) (fun hc => ?_) (fun hc => ?_)
    · replace hg := (if_pos hc).symm.trans hg
      refine rf_few [0, 1, 2, 3, 5] rfl ?_
      exact s_X14_adjust_328 C hE hr264 hr273 hr285 a3 a5 a6 a8 a7 m1 hg
    · replace hg := (if_neg hc).symm.trans hg
      refine rf_seg C [(.aload 0, 1), (.iload 6, 2), (.iload 8, 2)] (pc' := 312) (S' := ([(0, .ref 206), (3, .int a3), (5, .int a5), (6, .int a6), (7, .int a7), (8, .int a8)], [.int a8, .int a6, .ref 206, .int a7], rf_MM w m1)) (by decide +kernel) rfl trivial ?_
      obtain ⟨y2, m2, hc2, hg⟩ := rf_b_some hg
      refine rf_callv C rf_fit0 j_X14_isPartOf (ci := 14) (As := [.int a6, .int a8]) (rest := [.int a7]) mw_X14_isPartOf (c_X14_isPartOf hc2) (by decide) rfl (by decide) lk_14_774 rfl rfl (Nat.le_of_ble_eq_true rfl) (by decide +kernel) ?_
      show rf_V 9 (rf_sh w) K 0 0 315 ([(0, .ref 206), (3, .int a3), (5, .int a5), (6, .int a6), (7, .int a7), (8, .int a8)], [.int y2, .int a7], rf_MM w m2)
      refine rf_if_eq C 13 328 (by decide +kernel) (fun hc => ?_) (fun hc => ?_)
      · replace hg := (if_pos hc).symm.trans hg
        refine rf_few [0, 1, 2, 3, 5] rfl ?_
        exact s_X14_adjust_328 C hE hr264 hr273 hr285 a3 a5 a6 a8 a7 m2 hg
      · replace hg := (if_neg hc).symm.trans hg
        obtain ⟨q3, hg⟩ := rf_g_some hg
        refine rf_seg C [(.aload 0, 1), (.invokeinterface 14 90, 3), (.iload 8, 2), (.iaload, 1)] (pc' := 325) (S' := ([(0, .ref 206), (3, .int a3), (5, .int a5), (6, .int a6), (7, .int a7), (8, .int a8)], [.int (m2.1 265 (Int32.toNatClampNeg a8)), .int a7], rf_MM w m2)) (by decide +kernel) rfl (rf_in_of q3) ?_
        refine rf_goto C 4 329 (by decide +kernel) ?_
        refine rf_few [0, 1, 2, 3, 5] rfl ?_
        exact s_X14_adjust_329 C hE hr264 hr273 hr285 a3 a5 a6 a8 a7 (m2.1 265 (Int32.toNatClampNeg a8)) m2 hg
theorem s_X14_adjust_285 {w : rf_w} {K : rf_K} {r : Int32 × rf_m} (C : rf_Ctx 14 cX14_adjust 9 10 (rf_sh w) K) (hE : rf_End (some .int) K (rf_sh w) 0 0 (some (.int r.1)) (rf_MM w r.2)) {rec264 : Int32 → Int32 → rf_m → Option (Int32 × rf_m)} {rec273 : Int32 → Int32 → Int32 → rf_m → Option (Int32 × rf_m)} (hr264 : ∀ (a3 : Int32) (a5 : Int32) (m : rf_m), rec264 a3 a5 m = some r → rf_V 9 (rf_sh w) K 0 0 264 ([(0, .ref 206), (3, .int a3), (5, .int a5)], [], rf_MM w m)) (hr273 : ∀ (a3 : Int32) (a5 : Int32) (a6 : Int32) (m : rf_m), rec273 a3 a5 a6 m = some r → rf_V 9 (rf_sh w) K 0 0 273 ([(0, .ref 206), (3, .int a3), (5, .int a5), (6, .int a6)], [], rf_MM w m)) (n : Nat) : ∀ (a3 : Int32) (a5 : Int32) (a6 : Int32) (a7 : Int32) (a8 : Int32) (m : rf_m), g_X14_adjust_285 w rec264 rec273 n a3 a5 a6 a7 a8 m = some r → rf_V 9 (rf_sh w) K 0 0 285 ([(0, .ref 206), (3, .int a3), (5, .int a5), (6, .int a6), (7, .int a7), (8, .int a8)], [], rf_MM w m) := by
  induction n with
  | zero => intro a3 a5 a6 a7 a8 m hg; cases hg
  | succ n ih => intro a3 a5 a6 a7 a8 m hg; exact s_X14_adjust_285_b C hE hr264 hr273 ih a3 a5 a6 a7 a8 m hg
theorem s_X14_adjust_273_b {w : rf_w} {K : rf_K} {r : Int32 × rf_m} (C : rf_Ctx 14 cX14_adjust 9 10 (rf_sh w) K) (hE : rf_End (some .int) K (rf_sh w) 0 0 (some (.int r.1)) (rf_MM w r.2)) {rec264 : Int32 → Int32 → rf_m → Option (Int32 × rf_m)} {rec273 : Int32 → Int32 → Int32 → rf_m → Option (Int32 × rf_m)} (hr264 : ∀ (a3 : Int32) (a5 : Int32) (m : rf_m), rec264 a3 a5 m = some r → rf_V 9 (rf_sh w) K 0 0 264 ([(0, .ref 206), (3, .int a3), (5, .int a5)], [], rf_MM w m)) (hr273 : ∀ (a3 : Int32) (a5 : Int32) (a6 : Int32) (m : rf_m), rec273 a3 a5 a6 m = some r → rf_V 9 (rf_sh w) K 0 0 273 ([(0, .ref 206), (3, .int a3), (5, .int a5), (6, .int a6)], [], rf_MM w m)) (a3 : Int32) (a5 : Int32) (a6 : Int32) (m : rf_m) (hg : g_X14_adjust_273_b w rec264 rec273 a3 a5 a6 m = some r) : rf_V 9 (rf_sh w) K 0 0 273 ([(0, .ref 206), (3, .int a3), (5, .int a5), (6, .int a6)], [], rf_MM w m) := by
  unfold g_X14_adjust_273_b at hg
  refine rf_seg C [(.iload 6, 2), (.iload 3, 1)] (pc' := 276) (S' := ([(0, .ref 206), (3, .int a3), (5, .int a5), (6, .int a6)], [.int a3, .int a6], rf_MM w m)) (by decide +kernel) rfl trivial ?_
  refine rf_icmp_ge C 83 359 (by decide +kernel) (fun hc => ?_) (fun hc => ?_)
  · replace hg := (if_pos hc).symm.trans hg
    refine rf_seg C [(.iinc 5 1, 3)] (pc' := 362) (S' := ([(5, .int (a5 + 1)), (0, .ref 206), (3, .int a3), (6, .int a6)], [], rf_MM w m)) (by decide +kernel) rfl trivial ?_
    refine rf_goto C (-98) 264 (by decide +kernel) ?_
    refine rf_few [1, 2, 0] rfl ?_
    exact hr264 a3 (a5 + 1) m hg
  · replace hg := (if_neg hc).symm.trans hg
    refine rf_seg C [(.iconst 0, 1), (.istore 7, 2), (.iconst 0, 1), (.istore 8, 2)] (pc' := 285) (S' := ([(8, .int 0), (7, .int 0), (0, .ref 206), (3, .int a3), (5, .int a5), (6, .int a6)], [], rf_MM w m)) (by decide +kernel) rfl trivial ?_
    refine rf_few [2, 3, 4, 5, 1, 0] rfl ?_
    exact s_X14_adjust_285 C hE hr264 hr273 rf_fuel a3 a5 a6 0 0 m hg
theorem s_X14_adjust_273 {w : rf_w} {K : rf_K} {r : Int32 × rf_m} (C : rf_Ctx 14 cX14_adjust 9 10 (rf_sh w) K) (hE : rf_End (some .int) K (rf_sh w) 0 0 (some (.int r.1)) (rf_MM w r.2)) {rec264 : Int32 → Int32 → rf_m → Option (Int32 × rf_m)} (hr264 : ∀ (a3 : Int32) (a5 : Int32) (m : rf_m), rec264 a3 a5 m = some r → rf_V 9 (rf_sh w) K 0 0 264 ([(0, .ref 206), (3, .int a3), (5, .int a5)], [], rf_MM w m)) (n : Nat) : ∀ (a3 : Int32) (a5 : Int32) (a6 : Int32) (m : rf_m), g_X14_adjust_273 w rec264 n a3 a5 a6 m = some r → rf_V 9 (rf_sh w) K 0 0 273 ([(0, .ref 206), (3, .int a3), (5, .int a5), (6, .int a6)], [], rf_MM w m) := by
  induction n with
  | zero => intro a3 a5 a6 m hg; cases hg
  | succ n ih => intro a3 a5 a6 m hg; exact s_X14_adjust_273_b C hE hr264 ih a3 a5 a6 m hg
theorem s_X14_adjust_264_b {w : rf_w} {K : rf_K} {r : Int32 × rf_m} (C : rf_Ctx 14 cX14_adjust 9 10 (rf_sh w) K) (hE : rf_End (some .int) K (rf_sh w) 0 0 (some (.int r.1)) (rf_MM w r.2)) {rec264 : Int32 → Int32 → rf_m → Option (Int32 × rf_m)} (hr264 : ∀ (a3 : Int32) (a5 : Int32) (m : rf_m), rec264 a3 a5 m = some r → rf_V 9 (rf_sh w) K 0 0 264 ([(0, .ref 206), (3, .int a3), (5, .int a5)], [], rf_MM w m)) (a3 : Int32) (a5 : Int32) (m : rf_m) (hg : g_X14_adjust_264_b w rec264 a3 a5 m = some r) : rf_V 9 (rf_sh w) K 0 0 264 ([(0, .ref 206), (3, .int a3), (5, .int a5)], [], rf_MM w m) := by
  unfold g_X14_adjust_264_b at hg
  refine rf_seg C [(.iload 5, 2), (.iload 3, 1)] (pc' := 267) (S' := ([(0, .ref 206), (3, .int a3), (5, .int a5)], [.int a3, .int a5], rf_MM w m)) (by decide +kernel) rfl trivial ?_
  refine rf_icmp_ge C 98 365 (by decide +kernel) (fun hc => ?_) (fun hc => ?_)
  · replace hg := (if_pos hc).symm.trans hg
    refine rf_seg C [(.aload 0, 1), (.iload 3, 1), (.iconst (-1), 1), (.aload 0, 1), (.invokeinterface 14 83, 3), (.iconst 0, 1)] (pc' := 373) (S' := ([(0, .ref 206), (3, .int a3), (5, .int a5)], [.int 0, .ref 260, .int ((-1)), .int a3, .ref 206], rf_MM w m)) (by decide +kernel) rfl trivial ?_
    obtain ⟨m0, hc0, hg⟩ := rf_bv_some hg
    refine rf_callv C rf_fit0 j_X14_determinant__260 (ci := 14) (As := [.int a3, .int ((-1)), .ref 260, .int 0]) (rest := []) mw_X14_determinant__260 (c_X14_determinant__260 hc0) (by decide) rfl (by decide) lk_14_777 rfl rfl (Nat.le_of_ble_eq_true rfl) (by decide +kernel) ?_
    show rf_V 9 (rf_sh w) K 0 0 376 ([(0, .ref 206), (3, .int a3), (5, .int a5)], [], rf_MM w m0)
    refine rf_seg C [(.aload 0, 1), (.invokeinterface 14 83, 3), (.iconst 0, 1)] (pc' := 381) (S' := ([(0, .ref 206), (3, .int a3), (5, .int a5)], [.int 0, .ref 260], rf_MM w m0)) (by decide +kernel) rfl trivial ?_
    obtain ⟨y1, m1, hc1, hg⟩ := rf_b_some hg
    refine rf_calls C rf_fit0 j_X14_isZero__260 (As := [.ref 260, .int 0]) (rest := []) mw_X14_isZero__260 (c_X14_isZero__260 hc1) (by decide) lk_14_762 rfl rfl (Nat.le_of_ble_eq_true rfl) (by decide +kernel) ?_
    show rf_V 9 (rf_sh w) K 0 0 384 ([(0, .ref 206), (3, .int a3), (5, .int a5)], [.int y1], rf_MM w m1)
    refine rf_if_eq C 10 394 (by decide +kernel) (fun hc => ?_) (fun hc => ?_)
    · replace hg := (if_pos hc).symm.trans hg
      refine rf_seg C [(.aload 0, 1), (.invokeinterface 14 82, 3), (.iconst 0, 1), (.aload 0, 1), (.invokeinterface 14 83, 3), (.iconst 0, 1)] (pc' := 404) (S' := ([(0, .ref 206), (3, .int a3), (5, .int a5)], [.int 0, .ref 260, .int 0, .ref 259], rf_MM w m1)) (by decide +kernel) rfl trivial ?_
      obtain ⟨m2, hc2, hg⟩ := rf_bv_some hg
      refine rf_calls C rf_fit0 j_X14_copies__259_260 (As := [.ref 259, .int 0, .ref 260, .int 0]) (rest := []) mw_X14_copies__259_260 (c_X14_copies__259_260 hc2) (by decide) lk_14_744 rfl rfl (Nat.le_of_ble_eq_true rfl) (by decide +kernel) ?_
      show rf_V 9 (rf_sh w) K 0 0 407 ([(0, .ref 206), (3, .int a3), (5, .int a5)], [], rf_MM w m2)
      refine rf_seg C [(.aload 0, 1), (.invokeinterface 14 76, 3), (.iconst 0, 1), (.aload 0, 1), (.invokeinterface 14 82, 3), (.iconst 0, 1)] (pc' := 417) (S' := ([(0, .ref 206), (3, .int a3), (5, .int a5)], [.int 0, .ref 259, .int 0, .ref 253], rf_MM w m2)) (by decide +kernel) rfl trivial ?_
      obtain ⟨m3, hc3, hg⟩ := rf_bv_some hg
      refine rf_calls C rf_fit0 j_X14_copies__253_259 (As := [.ref 253, .int 0, .ref 259, .int 0]) (rest := []) mw_X14_copies__253_259 (c_X14_copies__253_259 hc3) (by decide) lk_14_744 rfl rfl (Nat.le_of_ble_eq_true rfl) (by decide +kernel) ?_
      show rf_V 9 (rf_sh w) K 0 0 420 ([(0, .ref 206), (3, .int a3), (5, .int a5)], [], rf_MM w m3)
      refine rf_seg C [(.aload 0, 1), (.invokeinterface 14 75, 3), (.iconst 0, 1), (.goto_w 0, 1)] (pc' := 426) (S' := ([(0, .ref 206), (3, .int a3), (5, .int a5)], [.long 0, .int 0, .ref 252], rf_MM w m3)) (by decide +kernel) rfl trivial ?_
      obtain ⟨m4, hc4, hg⟩ := rf_bv_some hg
      refine rf_calls C rf_fit0 j_X14_set__252 (As := [.ref 252, .int 0, .long 0]) (rest := []) mw_X14_set__252 (c_X14_set__252 hc4) (by decide) lk_14_740 rfl rfl (Nat.le_of_ble_eq_true rfl) (by decide +kernel) ?_
      show rf_V 9 (rf_sh w) K 0 0 429 ([(0, .ref 206), (3, .int a3), (5, .int a5)], [], rf_MM w m4)
      refine rf_seg C [(.iconst 0, 1), (.istore 5, 2)] (pc' := 432) (S' := ([(5, .int 0), (0, .ref 206), (3, .int a3)], [], rf_MM w m4)) (by decide +kernel) rfl trivial ?_
      refine rf_few [1, 2, 0] rfl ?_
      exact s_X14_adjust_432 C hE rf_fuel a3 0 m4 hg
    · replace hg := (if_neg hc).symm.trans hg
      refine rf_seg C [(.aload 0, 1), (.iconst 6, 2)] (pc' := 390) (S' := ([(0, .ref 206), (3, .int a3), (5, .int a5)], [.int 6, .ref 206], rf_MM w m1)) (by decide +kernel) rfl trivial ?_
      obtain ⟨y5, m5, hc5, hg⟩ := rf_b_some hg
      refine rf_callv C rf_fit0 j_X14_refused (ci := 14) (As := [.int 6]) (rest := []) mw_X14_refused (c_X14_refused hc5) (by decide) rfl (by decide) lk_14_353 rfl rfl (Nat.le_of_ble_eq_true rfl) (by decide +kernel) ?_
      show rf_V 9 (rf_sh w) K 0 0 393 ([(0, .ref 206), (3, .int a3), (5, .int a5)], [.int y5], rf_MM w m5)
      obtain rfl := Option.some.inj hg
      exact rf_iret C hE (by decide +kernel)
  · replace hg := (if_neg hc).symm.trans hg
    refine rf_seg C [(.iconst 0, 1), (.istore 6, 2)] (pc' := 273) (S' := ([(6, .int 0), (0, .ref 206), (3, .int a3), (5, .int a5)], [], rf_MM w m)) (by decide +kernel) rfl trivial ?_
    refine rf_few [1, 2, 3, 0] rfl ?_
    exact s_X14_adjust_273 C hE hr264 rf_fuel a3 a5 0 m hg
theorem s_X14_adjust_264 {w : rf_w} {K : rf_K} {r : Int32 × rf_m} (C : rf_Ctx 14 cX14_adjust 9 10 (rf_sh w) K) (hE : rf_End (some .int) K (rf_sh w) 0 0 (some (.int r.1)) (rf_MM w r.2)) (n : Nat) : ∀ (a3 : Int32) (a5 : Int32) (m : rf_m), g_X14_adjust_264 w n a3 a5 m = some r → rf_V 9 (rf_sh w) K 0 0 264 ([(0, .ref 206), (3, .int a3), (5, .int a5)], [], rf_MM w m) := by
  induction n with
  | zero => intro a3 a5 m hg; cases hg
  | succ n ih => intro a3 a5 m hg; exact s_X14_adjust_264_b C hE ih a3 a5 m hg
theorem s_X14_adjust_229_b {w : rf_w} {K : rf_K} {r : Int32 × rf_m} (C : rf_Ctx 14 cX14_adjust 9 10 (rf_sh w) K) (hE : rf_End (some .int) K (rf_sh w) 0 0 (some (.int r.1)) (rf_MM w r.2)) {rec229 : Int32 → Int32 → rf_m → Option (Int32 × rf_m)} (hr229 : ∀ (a3 : Int32) (a5 : Int32) (m : rf_m), rec229 a3 a5 m = some r → rf_V 9 (rf_sh w) K 0 0 229 ([(0, .ref 206), (3, .int a3), (5, .int a5)], [], rf_MM w m)) (a3 : Int32) (a5 : Int32) (m : rf_m) (hg : g_X14_adjust_229_b w rec229 a3 a5 m = some r) : rf_V 9 (rf_sh w) K 0 0 229 ([(0, .ref 206), (3, .int a3), (5, .int a5)], [], rf_MM w m) := by
  unfold g_X14_adjust_229_b at hg
  refine rf_seg C [(.iload 5, 2), (.aload 0, 1), (.invokeinterface 14 16, 3)] (pc' := 235) (S' := ([(0, .ref 206), (3, .int a3), (5, .int a5)], [.int (m.1 206 16), .int a5], rf_MM w m)) (by decide +kernel) rfl trivial ?_
  refine rf_icmp_ge C 26 261 (by decide +kernel) (fun hc => ?_) (fun hc => ?_)
  · replace hg := (if_pos hc).symm.trans hg
    refine rf_seg C [(.iconst 0, 1), (.istore 5, 2)] (pc' := 264) (S' := ([(5, .int 0), (0, .ref 206), (3, .int a3)], [], rf_MM w m)) (by decide +kernel) rfl trivial ?_
    refine rf_few [1, 2, 0] rfl ?_
    exact s_X14_adjust_264 C hE rf_fuel a3 0 m hg
  · replace hg := (if_neg hc).symm.trans hg
    refine rf_seg C [(.aload 0, 1), (.invokeinterface 14 90, 3), (.iload 5, 2), (.iconst 2520, 3), (.aload 0, 1), (.iload 5, 2)] (pc' := 250) (S' := ([(0, .ref 206), (3, .int a3), (5, .int a5)], [.int a5, .ref 206, .int 2520, .int a5, .ref 265], rf_MM w m)) (by decide +kernel) rfl trivial ?_
    obtain ⟨y0, m0, hc0, hg⟩ := rf_b_some hg
    refine rf_callv C rf_fit0 j_X14_weightOf (ci := 14) (As := [.int a5]) (rest := [.int 2520, .int a5, .ref 265]) mw_X14_weightOf (c_X14_weightOf hc0) (by decide) rfl (by decide) lk_14_480 rfl rfl (Nat.le_of_ble_eq_true rfl) (by decide +kernel) ?_
    show rf_V 9 (rf_sh w) K 0 0 253 ([(0, .ref 206), (3, .int a3), (5, .int a5)], [.int y0, .int 2520, .int a5, .ref 265], rf_MM w m0)
    obtain ⟨q1, hg⟩ := rf_g_some hg
    obtain ⟨q2, hg⟩ := rf_g_some hg
    refine rf_seg C [(.idiv, 1), (.iastore, 1), (.iinc 5 1, 3)] (pc' := 258) (S' := ([(5, .int (a5 + 1)), (0, .ref 206), (3, .int a3)], [], rf_MM w (rf_i m0 265 (Int32.toNatClampNeg a5) (2520 / y0)))) (by decide +kernel) rfl (by exact ⟨(rf_nz_of q1), (rf_in_of q2)⟩) ?_
    refine rf_goto C (-29) 229 (by decide +kernel) ?_
    refine rf_few [1, 2, 0] rfl ?_
    exact hr229 a3 (a5 + 1) (rf_i m0 265 (Int32.toNatClampNeg a5) (2520 / y0)) hg
theorem s_X14_adjust_229 {w : rf_w} {K : rf_K} {r : Int32 × rf_m} (C : rf_Ctx 14 cX14_adjust 9 10 (rf_sh w) K) (hE : rf_End (some .int) K (rf_sh w) 0 0 (some (.int r.1)) (rf_MM w r.2)) (n : Nat) : ∀ (a3 : Int32) (a5 : Int32) (m : rf_m), g_X14_adjust_229 w n a3 a5 m = some r → rf_V 9 (rf_sh w) K 0 0 229 ([(0, .ref 206), (3, .int a3), (5, .int a5)], [], rf_MM w m) := by
  induction n with
  | zero => intro a3 a5 m hg; cases hg
  | succ n ih => intro a3 a5 m hg; exact s_X14_adjust_229_b C hE ih a3 a5 m hg
theorem s_X14_adjust_209 {w : rf_w} {K : rf_K} {r : Int32 × rf_m} (C : rf_Ctx 14 cX14_adjust 9 10 (rf_sh w) K) (hE : rf_End (some .int) K (rf_sh w) 0 0 (some (.int r.1)) (rf_MM w r.2)) {rec80 : Int32 → Int32 → Int32 → Int32 → Int32 → rf_m → Option (Int32 × rf_m)} (hr80 : ∀ (a1 : Int32) (a2 : Int32) (a3 : Int32) (a4 : Int32) (a5 : Int32) (m : rf_m), rec80 a1 a2 a3 a4 a5 m = some r → rf_V 9 (rf_sh w) K 0 0 80 ([(0, .ref 206), (1, .int a1), (2, .int a2), (3, .int a3), (4, .int a4), (5, .int a5)], [], rf_MM w m)) (a1 : Int32) (a2 : Int32) (a3 : Int32) (a4 : Int32) (a5 : Int32) (m : rf_m) (hg : g_X14_adjust_209 w rec80 a1 a2 a3 a4 a5 m = some r) : rf_V 9 (rf_sh w) K 0 0 209 ([(0, .ref 206), (1, .int a1), (2, .int a2), (3, .int a3), (4, .int a4), (5, .int a5)], [], rf_MM w m) := by
  unfold g_X14_adjust_209 at hg
  refine rf_seg C [(.iinc 5 1, 3)] (pc' := 212) (S' := ([(5, .int (a5 + 1)), (0, .ref 206), (1, .int a1), (2, .int a2), (3, .int a3), (4, .int a4)], [], rf_MM w m)) (by decide +kernel) rfl trivial ?_
  refine rf_goto C (-132) 80 (by decide +kernel) ?_
  refine rf_few [1, 2, 3, 4, 5, 0] rfl ?_
  exact hr80 a1 a2 a3 a4 (a5 + 1) m hg
theorem s_X14_adjust_191 {w : rf_w} {K : rf_K} {r : Int32 × rf_m} (C : rf_Ctx 14 cX14_adjust 9 10 (rf_sh w) K) (hE : rf_End (some .int) K (rf_sh w) 0 0 (some (.int r.1)) (rf_MM w r.2)) {rec80 : Int32 → Int32 → Int32 → Int32 → Int32 → rf_m → Option (Int32 × rf_m)} (hr80 : ∀ (a1 : Int32) (a2 : Int32) (a3 : Int32) (a4 : Int32) (a5 : Int32) (m : rf_m), rec80 a1 a2 a3 a4 a5 m = some r → rf_V 9 (rf_sh w) K 0 0 80 ([(0, .ref 206), (1, .int a1), (2, .int a2), (3, .int a3), (4, .int a4), (5, .int a5)], [], rf_MM w m)) (a1 : Int32) (a2 : Int32) (a3 : Int32) (a5 : Int32) (s0 : Int32) (m : rf_m) (hg : g_X14_adjust_191 w rec80 a1 a2 a3 a5 s0 m = some r) : rf_V 9 (rf_sh w) K 0 0 191 ([(0, .ref 206), (1, .int a1), (2, .int a2), (3, .int a3), (5, .int a5)], [.int s0], rf_MM w m) := by
  unfold g_X14_adjust_191 at hg
  obtain ⟨q0, hg⟩ := rf_g_some hg
  obtain ⟨q1, hg⟩ := rf_g_some hg
  refine rf_seg C [(.istore 4, 2), (.aload 0, 1), (.invokeinterface 14 78, 3), (.iload 3, 1), (.aload 0, 1), (.invokeinterface 14 78, 3), (.iload 3, 1), (.iaload, 1), (.ineg, 1), (.iastore, 1), (.iinc 3 1, 3)] (pc' := 209) (S' := ([(3, .int (a3 + 1)), (4, .int s0), (0, .ref 206), (1, .int a1), (2, .int a2), (5, .int a5)], [], rf_MM w (rf_i m 255 (Int32.toNatClampNeg a3) (-(m.1 255 (Int32.toNatClampNeg a3)))))) (by decide +kernel) rfl (by exact ⟨(rf_in_of q0), (rf_in_of q1)⟩) ?_
  refine rf_few [2, 3, 4, 0, 1, 5] rfl ?_
  exact s_X14_adjust_209 C hE hr80 a1 a2 (a3 + 1) s0 a5 (rf_i m 255 (Int32.toNatClampNeg a3) (-(m.1 255 (Int32.toNatClampNeg a3)))) hg
theorem s_X14_adjust_190 {w : rf_w} {K : rf_K} {r : Int32 × rf_m} (C : rf_Ctx 14 cX14_adjust 9 10 (rf_sh w) K) (hE : rf_End (some .int) K (rf_sh w) 0 0 (some (.int r.1)) (rf_MM w r.2)) {rec80 : Int32 → Int32 → Int32 → Int32 → Int32 → rf_m → Option (Int32 × rf_m)} (hr80 : ∀ (a1 : Int32) (a2 : Int32) (a3 : Int32) (a4 : Int32) (a5 : Int32) (m : rf_m), rec80 a1 a2 a3 a4 a5 m = some r → rf_V 9 (rf_sh w) K 0 0 80 ([(0, .ref 206), (1, .int a1), (2, .int a2), (3, .int a3), (4, .int a4), (5, .int a5)], [], rf_MM w m)) (a1 : Int32) (a2 : Int32) (a3 : Int32) (a5 : Int32) (m : rf_m) (hg : g_X14_adjust_190 w rec80 a1 a2 a3 a5 m = some r) : rf_V 9 (rf_sh w) K 0 0 190 ([(0, .ref 206), (1, .int a1), (2, .int a2), (3, .int a3), (5, .int a5)], [], rf_MM w m) := by
  unfold g_X14_adjust_190 at hg
  refine rf_seg C [(.iconst 0, 1)] (pc' := 191) (S' := ([(0, .ref 206), (1, .int a1), (2, .int a2), (3, .int a3), (5, .int a5)], [.int 0], rf_MM w m)) (by decide +kernel) rfl trivial ?_
  refine rf_few [0, 1, 2, 3, 4] rfl ?_
  exact s_X14_adjust_191 C hE hr80 a1 a2 a3 a5 0 m hg
theorem s_X14_adjust_128 {w : rf_w} {K : rf_K} {r : Int32 × rf_m} (C : rf_Ctx 14 cX14_adjust 9 10 (rf_sh w) K) (hE : rf_End (some .int) K (rf_sh w) 0 0 (some (.int r.1)) (rf_MM w r.2)) {rec80 : Int32 → Int32 → Int32 → Int32 → Int32 → rf_m → Option (Int32 × rf_m)} (hr80 : ∀ (a1 : Int32) (a2 : Int32) (a3 : Int32) (a4 : Int32) (a5 : Int32) (m : rf_m), rec80 a1 a2 a3 a4 a5 m = some r → rf_V 9 (rf_sh w) K 0 0 80 ([(0, .ref 206), (1, .int a1), (2, .int a2), (3, .int a3), (4, .int a4), (5, .int a5)], [], rf_MM w m)) (a1 : Int32) (a2 : Int32) (a3 : Int32) (a4 : Int32) (a5 : Int32) (a6 : Int32) (a7 : Int32) (s0 : Int32) (m : rf_m) (hg : g_X14_adjust_128 w rec80 a1 a2 a3 a4 a5 a6 a7 s0 m = some r) : rf_V 9 (rf_sh w) K 0 0 128 ([(0, .ref 206), (1, .int a1), (2, .int a2), (3, .int a3), (4, .int a4), (5, .int a5), (6, .int a6), (7, .int a7)], [.int s0], rf_MM w m) := by
  unfold g_X14_adjust_128 at hg
  refine rf_seg C [(.iload 7, 2), (.ishr, 1), (.iconst 1, 1), (.iand, 1)] (pc' := 133) (S' := ([(0, .ref 206), (1, .int a1), (2, .int a2), (3, .int a3), (4, .int a4), (5, .int a5), (6, .int a6), (7, .int a7)], [.int ((s0 >>> (a7 &&& 31)) &&& 1)], rf_MM w m)) (by decide +kernel) rfl trivial ?_
  refine rf_if_ne C 6 139 (by decide +kernel) (fun hc => ?_) (fun hc => ?_)
  · replace hg := (if_neg hc).symm.trans hg
    obtain ⟨q0, hg⟩ := rf_g_some hg
    obtain ⟨q1, hg⟩ := rf_g_some hg
    refine rf_seg C [(.aload 0, 1), (.invokeinterface 14 84, 3), (.iload 3, 1), (.iload 7, 2), (.iastore, 1), (.aload 0, 1), (.invokeinterface 14 85, 3), (.iload 3, 1), (.iload 6, 2), (.bastore, 1), (.aload 0, 1), (.invokeinterface 14 78, 3), (.iload 3, 1), (.aload 0, 1), (.iload 7, 2), (.iload 6, 2)] (pc' := 165) (S' := ([(0, .ref 206), (1, .int a1), (2, .int a2), (3, .int a3), (4, .int a4), (5, .int a5), (6, .int a6), (7, .int a7)], [.int a6, .int a7, .ref 206, .int a3, .ref 255], rf_MM w (rf_i (rf_i m 261 (Int32.toNatClampNeg a3) a7) 262 (Int32.toNatClampNeg a3) (vp_nar .boolean a6)))) (by decide +kernel) rfl (by exact ⟨(rf_in_of q0), (rf_in_of q1)⟩) ?_
    obtain ⟨y2, m2, hc2, hg⟩ := rf_b_some hg
    refine rf_callv C rf_fit0 j_X14_missOf (ci := 14) (As := [.int a7, .int a6]) (rest := [.int a3, .ref 255]) mw_X14_missOf (c_X14_missOf hc2) (by decide) rfl (by decide) lk_14_716 rfl rfl (Nat.le_of_ble_eq_true rfl) (by decide +kernel) ?_
    show rf_V 9 (rf_sh w) K 0 0 168 ([(0, .ref 206), (1, .int a1), (2, .int a2), (3, .int a3), (4, .int a4), (5, .int a5), (6, .int a6), (7, .int a7)], [.int y2, .int a3, .ref 255], rf_MM w m2)
    obtain ⟨q3, hg⟩ := rf_g_some hg
    refine rf_seg C [(.iastore, 1), (.iload 4, 2)] (pc' := 171) (S' := ([(0, .ref 206), (1, .int a1), (2, .int a2), (3, .int a3), (4, .int a4), (5, .int a5), (6, .int a6), (7, .int a7)], [.int a4], rf_MM w (rf_i m2 255 (Int32.toNatClampNeg a3) y2))) (by decide +kernel) rfl (rf_in_of q3) ?_
    refine rf_if_eq C 19 190 (by decide +kernel) (fun hc => ?_) (fun hc => ?_)
    · replace hg := (if_pos hc).symm.trans hg
      refine rf_few [0, 1, 2, 3, 5] rfl ?_
      exact s_X14_adjust_190 C hE hr80 a1 a2 a3 a5 (rf_i m2 255 (Int32.toNatClampNeg a3) y2) hg
    · replace hg := (if_neg hc).symm.trans hg
      obtain ⟨q4, hg⟩ := rf_g_some hg
      refine rf_seg C [(.aload 0, 1), (.invokeinterface 14 78, 3), (.iload 3, 1), (.iaload, 1), (.iconst (-2147483648), 3)] (pc' := 183) (S' := ([(0, .ref 206), (1, .int a1), (2, .int a2), (3, .int a3), (4, .int a4), (5, .int a5), (6, .int a6), (7, .int a7)], [.int ((-2147483648)), .int ((rf_i m2 255 (Int32.toNatClampNeg a3) y2).1 255 (Int32.toNatClampNeg a3))], rf_MM w (rf_i m2 255 (Int32.toNatClampNeg a3) y2))) (by decide +kernel) rfl (rf_in_of q4) ?_
      refine rf_icmp_eq C 7 190 (by decide +kernel) (fun hc => ?_) (fun hc => ?_)
      · replace hg := (if_pos hc).symm.trans hg
        refine rf_few [0, 1, 2, 3, 5] rfl ?_
        exact s_X14_adjust_190 C hE hr80 a1 a2 a3 a5 (rf_i m2 255 (Int32.toNatClampNeg a3) y2) hg
      · replace hg := (if_neg hc).symm.trans hg
        refine rf_seg C [(.iconst 1, 1)] (pc' := 187) (S' := ([(0, .ref 206), (1, .int a1), (2, .int a2), (3, .int a3), (4, .int a4), (5, .int a5), (6, .int a6), (7, .int a7)], [.int 1], rf_MM w (rf_i m2 255 (Int32.toNatClampNeg a3) y2))) (by decide +kernel) rfl trivial ?_
        refine rf_goto C 4 191 (by decide +kernel) ?_
        refine rf_few [0, 1, 2, 3, 5] rfl ?_
        exact s_X14_adjust_191 C hE hr80 a1 a2 a3 a5 1 (rf_i m2 255 (Int32.toNatClampNeg a3) y2) hg
  · replace hg := (if_pos hc).symm.trans hg
    refine rf_goto C 73 209 (by decide +kernel) ?_
    refine rf_few [0, 1, 2, 3, 4, 5] rfl ?_
    exact s_X14_adjust_209 C hE hr80 a1 a2 a3 a4 a5 m hg
theorem s_X14_adjust_116 {w : rf_w} {K : rf_K} {r : Int32 × rf_m} (C : rf_Ctx 14 cX14_adjust 9 10 (rf_sh w) K) (hE : rf_End (some .int) K (rf_sh w) 0 0 (some (.int r.1)) (rf_MM w r.2)) {rec80 : Int32 → Int32 → Int32 → Int32 → Int32 → rf_m → Option (Int32 × rf_m)} (hr80 : ∀ (a1 : Int32) (a2 : Int32) (a3 : Int32) (a4 : Int32) (a5 : Int32) (m : rf_m), rec80 a1 a2 a3 a4 a5 m = some r → rf_V 9 (rf_sh w) K 0 0 80 ([(0, .ref 206), (1, .int a1), (2, .int a2), (3, .int a3), (4, .int a4), (5, .int a5)], [], rf_MM w m)) (a1 : Int32) (a2 : Int32) (a3 : Int32) (a4 : Int32) (a5 : Int32) (a6 : Int32) (s0 : Int32) (m : rf_m) (hg : g_X14_adjust_116 w rec80 a1 a2 a3 a4 a5 a6 s0 m = some r) : rf_V 9 (rf_sh w) K 0 0 116 ([(0, .ref 206), (1, .int a1), (2, .int a2), (3, .int a3), (4, .int a4), (5, .int a5), (6, .int a6)], [.int s0], rf_MM w m) := by
  unfold g_X14_adjust_116 at hg
  refine rf_seg C [(.istore 7, 2), (.iload 6, 2)] (pc' := 120) (S' := ([(7, .int s0), (0, .ref 206), (1, .int a1), (2, .int a2), (3, .int a3), (4, .int a4), (5, .int a5), (6, .int a6)], [.int a6], rf_MM w m)) (by decide +kernel) rfl trivial ?_
  refine rf_if_eq C 7 127 (by decide +kernel) (fun hc => ?_) (fun hc => ?_)
  · replace hg := (if_pos hc).symm.trans hg
    refine rf_seg C [(.iload 1, 1)] (pc' := 128) (S' := ([(7, .int s0), (0, .ref 206), (1, .int a1), (2, .int a2), (3, .int a3), (4, .int a4), (5, .int a5), (6, .int a6)], [.int a1], rf_MM w m)) (by decide +kernel) rfl trivial ?_
    refine rf_few [1, 2, 3, 4, 5, 6, 7, 0] rfl ?_
    exact s_X14_adjust_128 C hE hr80 a1 a2 a3 a4 a5 a6 s0 a1 m hg
  · replace hg := (if_neg hc).symm.trans hg
    refine rf_seg C [(.iload 2, 1)] (pc' := 124) (S' := ([(7, .int s0), (0, .ref 206), (1, .int a1), (2, .int a2), (3, .int a3), (4, .int a4), (5, .int a5), (6, .int a6)], [.int a2], rf_MM w m)) (by decide +kernel) rfl trivial ?_
    refine rf_goto C 4 128 (by decide +kernel) ?_
    refine rf_few [1, 2, 3, 4, 5, 6, 7, 0] rfl ?_
    exact s_X14_adjust_128 C hE hr80 a1 a2 a3 a4 a5 a6 s0 a2 m hg
theorem s_X14_adjust_99 {w : rf_w} {K : rf_K} {r : Int32 × rf_m} (C : rf_Ctx 14 cX14_adjust 9 10 (rf_sh w) K) (hE : rf_End (some .int) K (rf_sh w) 0 0 (some (.int r.1)) (rf_MM w r.2)) {rec80 : Int32 → Int32 → Int32 → Int32 → Int32 → rf_m → Option (Int32 × rf_m)} (hr80 : ∀ (a1 : Int32) (a2 : Int32) (a3 : Int32) (a4 : Int32) (a5 : Int32) (m : rf_m), rec80 a1 a2 a3 a4 a5 m = some r → rf_V 9 (rf_sh w) K 0 0 80 ([(0, .ref 206), (1, .int a1), (2, .int a2), (3, .int a3), (4, .int a4), (5, .int a5)], [], rf_MM w m)) (a1 : Int32) (a2 : Int32) (a3 : Int32) (a4 : Int32) (a5 : Int32) (s0 : Int32) (m : rf_m) (hg : g_X14_adjust_99 w rec80 a1 a2 a3 a4 a5 s0 m = some r) : rf_V 9 (rf_sh w) K 0 0 99 ([(0, .ref 206), (1, .int a1), (2, .int a2), (3, .int a3), (4, .int a4), (5, .int a5)], [.int s0], rf_MM w m) := by
  unfold g_X14_adjust_99 at hg
  refine rf_seg C [(.istore 6, 2), (.iload 6, 2)] (pc' := 103) (S' := ([(6, .int s0), (0, .ref 206), (1, .int a1), (2, .int a2), (3, .int a3), (4, .int a4), (5, .int a5)], [.int s0], rf_MM w m)) (by decide +kernel) rfl trivial ?_
  refine rf_if_eq C 11 114 (by decide +kernel) (fun hc => ?_) (fun hc => ?_)
  · replace hg := (if_pos hc).symm.trans hg
    refine rf_seg C [(.iload 5, 2)] (pc' := 116) (S' := ([(6, .int s0), (0, .ref 206), (1, .int a1), (2, .int a2), (3, .int a3), (4, .int a4), (5, .int a5)], [.int a5], rf_MM w m)) (by decide +kernel) rfl trivial ?_
    refine rf_few [1, 2, 3, 4, 5, 6, 0] rfl ?_
    exact s_X14_adjust_116 C hE hr80 a1 a2 a3 a4 a5 s0 a5 m hg
  · replace hg := (if_neg hc).symm.trans hg
    refine rf_seg C [(.iload 5, 2), (.iconst 30, 2), (.isub, 1)] (pc' := 111) (S' := ([(6, .int s0), (0, .ref 206), (1, .int a1), (2, .int a2), (3, .int a3), (4, .int a4), (5, .int a5)], [.int (a5 - 30)], rf_MM w m)) (by decide +kernel) rfl trivial ?_
    refine rf_goto C 5 116 (by decide +kernel) ?_
    refine rf_few [1, 2, 3, 4, 5, 6, 0] rfl ?_
    exact s_X14_adjust_116 C hE hr80 a1 a2 a3 a4 a5 s0 (a5 - 30) m hg
theorem s_X14_adjust_80_b {w : rf_w} {K : rf_K} {r : Int32 × rf_m} (C : rf_Ctx 14 cX14_adjust 9 10 (rf_sh w) K) (hE : rf_End (some .int) K (rf_sh w) 0 0 (some (.int r.1)) (rf_MM w r.2)) {rec80 : Int32 → Int32 → Int32 → Int32 → Int32 → rf_m → Option (Int32 × rf_m)} (hr80 : ∀ (a1 : Int32) (a2 : Int32) (a3 : Int32) (a4 : Int32) (a5 : Int32) (m : rf_m), rec80 a1 a2 a3 a4 a5 m = some r → rf_V 9 (rf_sh w) K 0 0 80 ([(0, .ref 206), (1, .int a1), (2, .int a2), (3, .int a3), (4, .int a4), (5, .int a5)], [], rf_MM w m)) (a1 : Int32) (a2 : Int32) (a3 : Int32) (a4 : Int32) (a5 : Int32) (m : rf_m) (hg : g_X14_adjust_80_b w rec80 a1 a2 a3 a4 a5 m = some r) : rf_V 9 (rf_sh w) K 0 0 80 ([(0, .ref 206), (1, .int a1), (2, .int a2), (3, .int a3), (4, .int a4), (5, .int a5)], [], rf_MM w m) := by
  unfold g_X14_adjust_80_b at hg
  refine rf_seg C [(.iload 5, 2), (.iconst 42, 2)] (pc' := 84) (S' := ([(0, .ref 206), (1, .int a1), (2, .int a2), (3, .int a3), (4, .int a4), (5, .int a5)], [.int 42, .int a5], rf_MM w m)) (by decide +kernel) rfl trivial ?_
  refine rf_icmp_ge C 131 215 (by decide +kernel) (fun hc => ?_) (fun hc => ?_)
  · replace hg := (if_pos hc).symm.trans hg
    refine rf_seg C [(.iload 4, 2)] (pc' := 217) (S' := ([(0, .ref 206), (1, .int a1), (2, .int a2), (3, .int a3), (4, .int a4), (5, .int a5)], [.int a4], rf_MM w m)) (by decide +kernel) rfl trivial ?_
    refine rf_if_ne C 9 226 (by decide +kernel) (fun hc => ?_) (fun hc => ?_)
    · replace hg := (if_neg hc).symm.trans hg
      refine rf_seg C [(.iconst 0, 1), (.istore 5, 2)] (pc' := 229) (S' := ([(5, .int 0), (0, .ref 206), (1, .int a1), (2, .int a2), (3, .int a3), (4, .int a4)], [], rf_MM w m)) (by decide +kernel) rfl trivial ?_
      refine rf_few [1, 4, 0] rfl ?_
      exact s_X14_adjust_229 C hE rf_fuel a3 0 m hg
    · replace hg := (if_pos hc).symm.trans hg
      refine rf_seg C [(.aload 0, 1), (.iconst 5, 1)] (pc' := 222) (S' := ([(0, .ref 206), (1, .int a1), (2, .int a2), (3, .int a3), (4, .int a4), (5, .int a5)], [.int 5, .ref 206], rf_MM w m)) (by decide +kernel) rfl trivial ?_
      obtain ⟨y0, m0, hc0, hg⟩ := rf_b_some hg
      refine rf_callv C rf_fit0 j_X14_refused (ci := 14) (As := [.int 5]) (rest := []) mw_X14_refused (c_X14_refused hc0) (by decide) rfl (by decide) lk_14_353 rfl rfl (Nat.le_of_ble_eq_true rfl) (by decide +kernel) ?_
      show rf_V 9 (rf_sh w) K 0 0 225 ([(0, .ref 206), (1, .int a1), (2, .int a2), (3, .int a3), (4, .int a4), (5, .int a5)], [.int y0], rf_MM w m0)
      obtain rfl := Option.some.inj hg
      exact rf_iret C hE (by decide +kernel)
  · replace hg := (if_neg hc).symm.trans hg
    refine rf_seg C [(.iload 5, 2), (.iconst 30, 2)] (pc' := 91) (S' := ([(0, .ref 206), (1, .int a1), (2, .int a2), (3, .int a3), (4, .int a4), (5, .int a5)], [.int 30, .int a5], rf_MM w m)) (by decide +kernel) rfl trivial ?_
    refine rf_icmp_lt C 7 98 (by decide +kernel) (fun hc => ?_) (fun hc => ?_)
    · replace hg := (if_pos hc).symm.trans hg
      refine rf_seg C [(.iconst 0, 1)] (pc' := 99) (S' := ([(0, .ref 206), (1, .int a1), (2, .int a2), (3, .int a3), (4, .int a4), (5, .int a5)], [.int 0], rf_MM w m)) (by decide +kernel) rfl trivial ?_
      refine rf_few [0, 1, 2, 3, 4, 5] rfl ?_
      exact s_X14_adjust_99 C hE hr80 a1 a2 a3 a4 a5 0 m hg
    · replace hg := (if_neg hc).symm.trans hg
      refine rf_seg C [(.iconst 1, 1)] (pc' := 95) (S' := ([(0, .ref 206), (1, .int a1), (2, .int a2), (3, .int a3), (4, .int a4), (5, .int a5)], [.int 1], rf_MM w m)) (by decide +kernel) rfl trivial ?_
      refine rf_goto C 4 99 (by decide +kernel) ?_
      refine rf_few [0, 1, 2, 3, 4, 5] rfl ?_
      exact s_X14_adjust_99 C hE hr80 a1 a2 a3 a4 a5 1 m hg
theorem s_X14_adjust_80 {w : rf_w} {K : rf_K} {r : Int32 × rf_m} (C : rf_Ctx 14 cX14_adjust 9 10 (rf_sh w) K) (hE : rf_End (some .int) K (rf_sh w) 0 0 (some (.int r.1)) (rf_MM w r.2)) (n : Nat) : ∀ (a1 : Int32) (a2 : Int32) (a3 : Int32) (a4 : Int32) (a5 : Int32) (m : rf_m), g_X14_adjust_80 w n a1 a2 a3 a4 a5 m = some r → rf_V 9 (rf_sh w) K 0 0 80 ([(0, .ref 206), (1, .int a1), (2, .int a2), (3, .int a3), (4, .int a4), (5, .int a5)], [], rf_MM w m) := by
  induction n with
  | zero => intro a1 a2 a3 a4 a5 m hg; cases hg
  | succ n ih => intro a1 a2 a3 a4 a5 m hg; exact s_X14_adjust_80_b C hE ih a1 a2 a3 a4 a5 m hg
theorem s_X14_adjust_47 {w : rf_w} {K : rf_K} {r : Int32 × rf_m} (C : rf_Ctx 14 cX14_adjust 9 10 (rf_sh w) K) (hE : rf_End (some .int) K (rf_sh w) 0 0 (some (.int r.1)) (rf_MM w r.2)) (a1 : Int32) (a2 : Int32) (m : rf_m) (hg : g_X14_adjust_47 w a1 a2 m = some r) : rf_V 9 (rf_sh w) K 0 0 47 ([(0, .ref 206), (1, .int a1), (2, .int a2)], [], rf_MM w m) := by
  unfold g_X14_adjust_47 at hg
  refine rf_seg C [(.iload 1, 1)] (pc' := 48) (S' := ([(0, .ref 206), (1, .int a1), (2, .int a2)], [.int a1], rf_MM w m)) (by decide +kernel) rfl trivial ?_
  obtain ⟨y0, m0, hc0, hg⟩ := rf_b_some hg
  refine rf_calls C rf_fit0 j_X14_bits (As := [.int a1]) (rest := []) mw_X14_bits (c_X14_bits hc0) (by decide) lk_14_767 rfl rfl (Nat.le_of_ble_eq_true rfl) (by decide +kernel) ?_
  show rf_V 9 (rf_sh w) K 0 0 51 ([(0, .ref 206), (1, .int a1), (2, .int a2)], [.int y0], rf_MM w m0)
  refine rf_seg C [(.iload 2, 1)] (pc' := 52) (S' := ([(0, .ref 206), (1, .int a1), (2, .int a2)], [.int a2, .int y0], rf_MM w m0)) (by decide +kernel) rfl trivial ?_
  obtain ⟨y1, m1, hc1, hg⟩ := rf_b_some hg
  refine rf_calls C rf_fit0 j_X14_bits (As := [.int a2]) (rest := [.int y0]) mw_X14_bits (c_X14_bits hc1) (by decide) lk_14_767 rfl rfl (Nat.le_of_ble_eq_true rfl) (by decide +kernel) ?_
  show rf_V 9 (rf_sh w) K 0 0 55 ([(0, .ref 206), (1, .int a1), (2, .int a2)], [.int y1, .int y0], rf_MM w m1)
  refine rf_seg C [(.iadd, 1), (.iconst 6, 2)] (pc' := 58) (S' := ([(0, .ref 206), (1, .int a1), (2, .int a2)], [.int 6, .int (y0 + y1)], rf_MM w m1)) (by decide +kernel) rfl trivial ?_
  refine rf_icmp_le C 10 68 (by decide +kernel) (fun hc => ?_) (fun hc => ?_)
  · replace hg := (if_pos hc).symm.trans hg
    refine rf_seg C [(.aload 0, 1)] (pc' := 69) (S' := ([(0, .ref 206), (1, .int a1), (2, .int a2)], [.ref 206], rf_MM w m1)) (by decide +kernel) rfl trivial ?_
    obtain ⟨m2, hc2, hg⟩ := rf_bv_some hg
    refine rf_callv C rf_fit0 j_X14_allMeans (ci := 14) (As := []) (rest := []) mw_X14_allMeans (c_X14_allMeans hc2) (by decide) rfl (by decide) lk_14_713 rfl rfl (Nat.le_of_ble_eq_true rfl) (by decide +kernel) ?_
    show rf_V 9 (rf_sh w) K 0 0 72 ([(0, .ref 206), (1, .int a1), (2, .int a2)], [], rf_MM w m2)
    refine rf_seg C [(.iconst 0, 1), (.istore 3, 1), (.iconst 1, 1), (.istore 4, 2), (.iconst 0, 1), (.istore 5, 2)] (pc' := 80) (S' := ([(5, .int 0), (4, .int 1), (3, .int 0), (0, .ref 206), (1, .int a1), (2, .int a2)], [], rf_MM w m2)) (by decide +kernel) rfl trivial ?_
    refine rf_few [3, 4, 5, 2, 1, 0] rfl ?_
    exact s_X14_adjust_80 C hE rf_fuel a1 a2 0 1 0 m2 hg
  · replace hg := (if_neg hc).symm.trans hg
    refine rf_seg C [(.aload 0, 1), (.iconst 7, 2)] (pc' := 64) (S' := ([(0, .ref 206), (1, .int a1), (2, .int a2)], [.int 7, .ref 206], rf_MM w m1)) (by decide +kernel) rfl trivial ?_
    obtain ⟨y3, m3, hc3, hg⟩ := rf_b_some hg
    refine rf_callv C rf_fit0 j_X14_refused (ci := 14) (As := [.int 7]) (rest := []) mw_X14_refused (c_X14_refused hc3) (by decide) rfl (by decide) lk_14_353 rfl rfl (Nat.le_of_ble_eq_true rfl) (by decide +kernel) ?_
    show rf_V 9 (rf_sh w) K 0 0 67 ([(0, .ref 206), (1, .int a1), (2, .int a2)], [.int y3], rf_MM w m3)
    obtain rfl := Option.some.inj hg
    exact rf_iret C hE (by decide +kernel)
theorem c_X14_adjust {w : rf_w} {m : rf_m} {a1 : Int32} {a2 : Int32} {r : Int32 × rf_m} (hg : g_X14_adjust w m a1 a2 = some r) : rf_Con j_X14_adjust 10 (rf_sh w) [.ref 206, .int a1, .int a2] (rf_MM w m) (some (.int r.1)) (rf_MM w r.2) := by
  refine rf_con j_X14_adjust 10 ⟨by decide +kernel, rfl, Nat.le_of_ble_eq_true rfl⟩ (fun K C hE => ?_)
  unfold g_X14_adjust at hg
  show rf_V 9 (rf_sh w) K 0 0 0 ([(0, .ref 206), (1, .int a1), (2, .int a2)], [], rf_MM w m)
  refine rf_seg C [(.aload 0, 1), (.iconst 0, 1), (.multianewarray 14 0, 3), (.iload 1, 1)] (pc' := 6) (S' := ([(0, .ref 206), (1, .int a1), (2, .int a2)], [.int a1], rf_MM w (rf_i m 206 0 0))) (by decide +kernel) rfl trivial ?_
  refine rf_if_lt C 35 41 (by decide +kernel) (fun hc => ?_) (fun hc => ?_)
  · replace hg := (if_pos hc).symm.trans hg
    refine rf_seg C [(.aload 0, 1), (.iconst 1, 1)] (pc' := 43) (S' := ([(0, .ref 206), (1, .int a1), (2, .int a2)], [.int 1, .ref 206], rf_MM w (rf_i m 206 0 0))) (by decide +kernel) rfl trivial ?_
    obtain ⟨y0, m0, hc0, hg⟩ := rf_b_some hg
    refine rf_callv C rf_fit0 j_X14_refused (ci := 14) (As := [.int 1]) (rest := []) mw_X14_refused (c_X14_refused hc0) (by decide) rfl (by decide) lk_14_353 rfl rfl (Nat.le_of_ble_eq_true rfl) (by decide +kernel) ?_
    show rf_V 9 (rf_sh w) K 0 0 46 ([(0, .ref 206), (1, .int a1), (2, .int a2)], [.int y0], rf_MM w m0)
    obtain rfl := Option.some.inj hg
    exact rf_iret C hE (by decide +kernel)
  · replace hg := (if_neg hc).symm.trans hg
    refine rf_seg C [(.iload 1, 1), (.iconst 1, 1), (.aload 0, 1), (.invokeinterface 14 64, 3), (.ishl, 1)] (pc' := 16) (S' := ([(0, .ref 206), (1, .int a1), (2, .int a2)], [.int ((1 : Int32) <<< (((rf_i m 206 0 0).1 206 64) &&& 31)), .int a1], rf_MM w (rf_i m 206 0 0))) (by decide +kernel) rfl trivial ?_
    refine rf_icmp_ge C 25 41 (by decide +kernel) (fun hc => ?_) (fun hc => ?_)
    · replace hg := (if_pos hc).symm.trans hg
      refine rf_seg C [(.aload 0, 1), (.iconst 1, 1)] (pc' := 43) (S' := ([(0, .ref 206), (1, .int a1), (2, .int a2)], [.int 1, .ref 206], rf_MM w (rf_i m 206 0 0))) (by decide +kernel) rfl trivial ?_
      obtain ⟨y1, m1, hc1, hg⟩ := rf_b_some hg
      refine rf_callv C rf_fit0 j_X14_refused (ci := 14) (As := [.int 1]) (rest := []) mw_X14_refused (c_X14_refused hc1) (by decide) rfl (by decide) lk_14_353 rfl rfl (Nat.le_of_ble_eq_true rfl) (by decide +kernel) ?_
      show rf_V 9 (rf_sh w) K 0 0 46 ([(0, .ref 206), (1, .int a1), (2, .int a2)], [.int y1], rf_MM w m1)
      obtain rfl := Option.some.inj hg
      exact rf_iret C hE (by decide +kernel)
    · replace hg := (if_neg hc).symm.trans hg
      refine rf_seg C [(.iload 2, 1)] (pc' := 20) (S' := ([(0, .ref 206), (1, .int a1), (2, .int a2)], [.int a2], rf_MM w (rf_i m 206 0 0))) (by decide +kernel) rfl trivial ?_
      refine rf_if_lt C 21 41 (by decide +kernel) (fun hc => ?_) (fun hc => ?_)
      · replace hg := (if_pos hc).symm.trans hg
        refine rf_seg C [(.aload 0, 1), (.iconst 1, 1)] (pc' := 43) (S' := ([(0, .ref 206), (1, .int a1), (2, .int a2)], [.int 1, .ref 206], rf_MM w (rf_i m 206 0 0))) (by decide +kernel) rfl trivial ?_
        obtain ⟨y2, m2, hc2, hg⟩ := rf_b_some hg
        refine rf_callv C rf_fit0 j_X14_refused (ci := 14) (As := [.int 1]) (rest := []) mw_X14_refused (c_X14_refused hc2) (by decide) rfl (by decide) lk_14_353 rfl rfl (Nat.le_of_ble_eq_true rfl) (by decide +kernel) ?_
        show rf_V 9 (rf_sh w) K 0 0 46 ([(0, .ref 206), (1, .int a1), (2, .int a2)], [.int y2], rf_MM w m2)
        obtain rfl := Option.some.inj hg
        exact rf_iret C hE (by decide +kernel)
      · replace hg := (if_neg hc).symm.trans hg
        refine rf_seg C [(.iload 2, 1), (.iconst 1, 1), (.aload 0, 1), (.invokeinterface 14 65, 3), (.ishl, 1)] (pc' := 30) (S' := ([(0, .ref 206), (1, .int a1), (2, .int a2)], [.int ((1 : Int32) <<< (((rf_i m 206 0 0).1 206 65) &&& 31)), .int a2], rf_MM w (rf_i m 206 0 0))) (by decide +kernel) rfl trivial ?_
        refine rf_icmp_ge C 11 41 (by decide +kernel) (fun hc => ?_) (fun hc => ?_)
        · replace hg := (if_pos hc).symm.trans hg
          refine rf_seg C [(.aload 0, 1), (.iconst 1, 1)] (pc' := 43) (S' := ([(0, .ref 206), (1, .int a1), (2, .int a2)], [.int 1, .ref 206], rf_MM w (rf_i m 206 0 0))) (by decide +kernel) rfl trivial ?_
          obtain ⟨y3, m3, hc3, hg⟩ := rf_b_some hg
          refine rf_callv C rf_fit0 j_X14_refused (ci := 14) (As := [.int 1]) (rest := []) mw_X14_refused (c_X14_refused hc3) (by decide) rfl (by decide) lk_14_353 rfl rfl (Nat.le_of_ble_eq_true rfl) (by decide +kernel) ?_
          show rf_V 9 (rf_sh w) K 0 0 46 ([(0, .ref 206), (1, .int a1), (2, .int a2)], [.int y3], rf_MM w m3)
          obtain rfl := Option.some.inj hg
          exact rf_iret C hE (by decide +kernel)
        · replace hg := (if_neg hc).symm.trans hg
          refine rf_seg C [(.iload 1, 1)] (pc' := 34) (S' := ([(0, .ref 206), (1, .int a1), (2, .int a2)], [.int a1], rf_MM w (rf_i m 206 0 0))) (by decide +kernel) rfl trivial ?_
          refine rf_if_ne C 13 47 (by decide +kernel) (fun hc => ?_) (fun hc => ?_)
          · replace hg := (if_neg hc).symm.trans hg
            refine rf_few [0, 1, 2] rfl ?_
            exact s_X14_adjust_47 C hE a1 a2 (rf_i m 206 0 0) hg
          · replace hg := (if_pos hc).symm.trans hg
            refine rf_seg C [(.iload 2, 1)] (pc' := 38) (S' := ([(0, .ref 206), (1, .int a1), (2, .int a2)], [.int a2], rf_MM w (rf_i m 206 0 0))) (by decide +kernel) rfl trivial ?_
            refine rf_if_ne C 9 47 (by decide +kernel) (fun hc => ?_) (fun hc => ?_)
            · replace hg := (if_neg hc).symm.trans hg
              refine rf_few [0, 1, 2] rfl ?_
              exact s_X14_adjust_47 C hE a1 a2 (rf_i m 206 0 0) hg
            · replace hg := (if_pos hc).symm.trans hg
              refine rf_seg C [(.aload 0, 1), (.iconst 1, 1)] (pc' := 43) (S' := ([(0, .ref 206), (1, .int a1), (2, .int a2)], [.int 1, .ref 206], rf_MM w (rf_i m 206 0 0))) (by decide +kernel) rfl trivial ?_
              obtain ⟨y4, m4, hc4, hg⟩ := rf_b_some hg
              refine rf_callv C rf_fit0 j_X14_refused (ci := 14) (As := [.int 1]) (rest := []) mw_X14_refused (c_X14_refused hc4) (by decide) rfl (by decide) lk_14_353 rfl rfl (Nat.le_of_ble_eq_true rfl) (by decide +kernel) ?_
              show rf_V 9 (rf_sh w) K 0 0 46 ([(0, .ref 206), (1, .int a1), (2, .int a2)], [.int y4], rf_MM w m4)
              obtain rfl := Option.some.inj hg
              exact rf_iret C hE (by decide +kernel)
-- X14_times__252_264
abbrev j_X14_times__252_264 : rf_J := (14, yX14_times, cX14_times, 10, none)
theorem mw_X14_times__252_264 : rf_ms j_X14_times__252_264 5 := ⟨⟨rf_mem 71 (by decide +kernel), rf_mem 0 (by decide +kernel), rf_mem 71 (by decide +kernel)⟩, by decide +kernel, by decide⟩
def g_X14_times__252_264_14_b (w : rf_w) (rec14 : Int32 → Int32 → Int32 → Int64 → Int64 → Int32 → rf_m → Option (rf_m)) (a1 : Int32) (a3 : Int32) (a4 : Int32) (a5 : Int64) (a7 : Int64) (a9 : Int32) (m : rf_m) : Option (rf_m) := (if 6 ≤ a9 then (if (0 : Int32) ≤ a4 then some m else rf_bv (g_X14_turns__252 w m a1) fun m0 => some m0) else rf_g (rf_in (a3 + a9) 480) (rf_vl (a7 + (((Int32.toInt64 (m.1 264 (Int32.toNatClampNeg (a3 + a9)))) &&& 4294967295) * a5)) fun x2 => rf_g (rf_in (a1 + a9) 6) (rf_vl ((Int64.toUInt64 x2 >>> ((Int32.toInt64 32).toUInt64 &&& Int64.toUInt64 63)).toInt64) fun x4 => rec14 a1 a3 a4 a5 x4 (a9 + 1) (rf_i m 252 (Int32.toNatClampNeg (a1 + a9)) (Int64.toInt32 x2)))))
def g_X14_times__252_264_14 (w : rf_w) : Nat → Int32 → Int32 → Int32 → Int64 → Int64 → Int32 → rf_m → Option (rf_m)
  | 0, _, _, _, _, _, _, _ => none
  | n + 1, a1, a3, a4, a5, a7, a9, m => g_X14_times__252_264_14_b w (g_X14_times__252_264_14 w n) a1 a3 a4 a5 a7 a9 m
def g_X14_times__252_264 (w : rf_w) (m : rf_m) (a1 : Int32) (a3 : Int32) (a4 : Int32) : Option (rf_m) := rf_b (g_absL w m (Int32.toInt64 a4)) fun y0 m0 => g_X14_times__252_264_14 w rf_fuel a1 a3 a4 y0 0 0 m0
theorem s_X14_times__252_264_14_b {w : rf_w} {K : rf_K} {r : rf_m} (C : rf_Ctx 14 cX14_times 10 2 (rf_sh w) K) (hE : rf_End none K (rf_sh w) 0 0 none (rf_MM w r)) {rec14 : Int32 → Int32 → Int32 → Int64 → Int64 → Int32 → rf_m → Option (rf_m)} (hr14 : ∀ (a1 : Int32) (a3 : Int32) (a4 : Int32) (a5 : Int64) (a7 : Int64) (a9 : Int32) (m : rf_m), rec14 a1 a3 a4 a5 a7 a9 m = some r → rf_V 10 (rf_sh w) K 0 0 14 ([(0, .ref 252), (1, .int a1), (2, .ref 264), (3, .int a3), (4, .int a4), (5, .long a5), (7, .long a7), (9, .int a9)], [], rf_MM w m)) (a1 : Int32) (a3 : Int32) (a4 : Int32) (a5 : Int64) (a7 : Int64) (a9 : Int32) (m : rf_m) (hg : g_X14_times__252_264_14_b w rec14 a1 a3 a4 a5 a7 a9 m = some r) : rf_V 10 (rf_sh w) K 0 0 14 ([(0, .ref 252), (1, .int a1), (2, .ref 264), (3, .int a3), (4, .int a4), (5, .long a5), (7, .long a7), (9, .int a9)], [], rf_MM w m) := by
  unfold g_X14_times__252_264_14_b at hg
  refine rf_seg C [(.iload 9, 2), (.iconst 6, 2)] (pc' := 18) (S' := ([(0, .ref 252), (1, .int a1), (2, .ref 264), (3, .int a3), (4, .int a4), (5, .long a5), (7, .long a7), (9, .int a9)], [.int 6, .int a9], rf_MM w m)) (by decide +kernel) rfl trivial ?_
  refine rf_icmp_ge C 44 62 (by decide +kernel) (fun hc => ?_) (fun hc => ?_)
  · replace hg := (if_pos hc).symm.trans hg
    refine rf_seg C [(.iload 4, 2)] (pc' := 64) (S' := ([(0, .ref 252), (1, .int a1), (2, .ref 264), (3, .int a3), (4, .int a4), (5, .long a5), (7, .long a7), (9, .int a9)], [.int a4], rf_MM w m)) (by decide +kernel) rfl trivial ?_
    refine rf_if_ge C 8 72 (by decide +kernel) (fun hc => ?_) (fun hc => ?_)
    · replace hg := (if_pos hc).symm.trans hg
      obtain rfl := Option.some.inj hg
      exact rf_vret C hE (by decide +kernel)
    · replace hg := (if_neg hc).symm.trans hg
      refine rf_seg C [(.aload 0, 1), (.iload 1, 1)] (pc' := 69) (S' := ([(0, .ref 252), (1, .int a1), (2, .ref 264), (3, .int a3), (4, .int a4), (5, .long a5), (7, .long a7), (9, .int a9)], [.int a1, .ref 252], rf_MM w m)) (by decide +kernel) rfl trivial ?_
      obtain ⟨m0, hc0, hg⟩ := rf_bv_some hg
      refine rf_calls C rf_fit0 j_X14_turns__252 (As := [.ref 252, .int a1]) (rest := []) mw_X14_turns__252 (c_X14_turns__252 hc0) (by decide) lk_14_736 rfl rfl (Nat.le_of_ble_eq_true rfl) (by decide +kernel) ?_
      show rf_V 10 (rf_sh w) K 0 0 72 ([(0, .ref 252), (1, .int a1), (2, .ref 264), (3, .int a3), (4, .int a4), (5, .long a5), (7, .long a7), (9, .int a9)], [], rf_MM w m0)
      obtain rfl := Option.some.inj hg
      exact rf_vret C hE (by decide +kernel)
  · replace hg := (if_neg hc).symm.trans hg
    obtain ⟨q1, hg⟩ := rf_g_some hg
    refine rf_seg C [(.lload 7, 2), (.aload 2, 1), (.iload 3, 1), (.iload 9, 2), (.iadd, 1), (.iaload, 1), (.i2l, 1), (.goto_w 4294967295, 3), (.land, 1), (.lload 5, 2), (.lmul, 1), (.ladd, 1)] (pc' := 38) (S' := ([(0, .ref 252), (1, .int a1), (2, .ref 264), (3, .int a3), (4, .int a4), (5, .long a5), (7, .long a7), (9, .int a9)], [.long (a7 + (((Int32.toInt64 (m.1 264 (Int32.toNatClampNeg (a3 + a9)))) &&& 4294967295) * a5))], rf_MM w m)) (by decide +kernel) rfl (rf_in_of q1) ?_
    obtain ⟨x2, hx2, hg⟩ := rf_vl_some hg
    refine rf_vl_top hx2 ?_
    obtain ⟨q3, hg⟩ := rf_g_some hg
    refine rf_seg C [(.lstore 7, 2), (.aload 0, 1), (.iload 1, 1), (.iload 9, 2), (.iadd, 1), (.lload 7, 2), (.l2i, 1), (.iastore, 1), (.lload 7, 2), (.iconst 32, 2), (.lushr, 1)] (pc' := 54) (S' := ([(7, .long x2), (0, .ref 252), (1, .int a1), (2, .ref 264), (3, .int a3), (4, .int a4), (5, .long a5), (9, .int a9)], [.long ((Int64.toUInt64 x2 >>> ((Int32.toInt64 32).toUInt64 &&& Int64.toUInt64 63)).toInt64)], rf_MM w (rf_i m 252 (Int32.toNatClampNeg (a1 + a9)) (Int64.toInt32 x2)))) (by decide +kernel) rfl (rf_in_of q3) ?_
    obtain ⟨x4, hx4, hg⟩ := rf_vl_some hg
    refine rf_vl_top hx4 ?_
    refine rf_seg C [(.lstore 7, 2), (.iinc 9 1, 3)] (pc' := 59) (S' := ([(9, .int (a9 + 1)), (7, .long x4), (0, .ref 252), (1, .int a1), (2, .ref 264), (3, .int a3), (4, .int a4), (5, .long a5)], [], rf_MM w (rf_i m 252 (Int32.toNatClampNeg (a1 + a9)) (Int64.toInt32 x2)))) (by decide +kernel) rfl trivial ?_
    refine rf_goto C (-45) 14 (by decide +kernel) ?_
    refine rf_few [2, 3, 4, 5, 6, 7, 1, 0] rfl ?_
    exact hr14 a1 a3 a4 a5 x4 (a9 + 1) (rf_i m 252 (Int32.toNatClampNeg (a1 + a9)) (Int64.toInt32 x2)) hg
theorem s_X14_times__252_264_14 {w : rf_w} {K : rf_K} {r : rf_m} (C : rf_Ctx 14 cX14_times 10 2 (rf_sh w) K) (hE : rf_End none K (rf_sh w) 0 0 none (rf_MM w r)) (n : Nat) : ∀ (a1 : Int32) (a3 : Int32) (a4 : Int32) (a5 : Int64) (a7 : Int64) (a9 : Int32) (m : rf_m), g_X14_times__252_264_14 w n a1 a3 a4 a5 a7 a9 m = some r → rf_V 10 (rf_sh w) K 0 0 14 ([(0, .ref 252), (1, .int a1), (2, .ref 264), (3, .int a3), (4, .int a4), (5, .long a5), (7, .long a7), (9, .int a9)], [], rf_MM w m) := by
  induction n with
  | zero => intro a1 a3 a4 a5 a7 a9 m hg; cases hg
  | succ n ih => intro a1 a3 a4 a5 a7 a9 m hg; exact s_X14_times__252_264_14_b C hE ih a1 a3 a4 a5 a7 a9 m hg
theorem c_X14_times__252_264 {w : rf_w} {m : rf_m} {a1 : Int32} {a3 : Int32} {a4 : Int32} {r : rf_m} (hg : g_X14_times__252_264 w m a1 a3 a4 = some r) : rf_Con j_X14_times__252_264 2 (rf_sh w) [.ref 252, .int a1, .ref 264, .int a3, .int a4] (rf_MM w m) none (rf_MM w r) := by
  refine rf_con j_X14_times__252_264 2 ⟨by decide +kernel, rfl, Nat.le_of_ble_eq_true rfl⟩ (fun K C hE => ?_)
  unfold g_X14_times__252_264 at hg
  show rf_V 10 (rf_sh w) K 0 0 0 ([(0, .ref 252), (1, .int a1), (2, .ref 264), (3, .int a3), (4, .int a4)], [], rf_MM w m)
  refine rf_seg C [(.iload 4, 2), (.i2l, 1)] (pc' := 3) (S' := ([(0, .ref 252), (1, .int a1), (2, .ref 264), (3, .int a3), (4, .int a4)], [.long (Int32.toInt64 a4)], rf_MM w m)) (by decide +kernel) rfl trivial ?_
  obtain ⟨y0, m0, hc0, hg⟩ := rf_b_some hg
  refine rf_calls C rf_fit0 j_absL (As := [.long (Int32.toInt64 a4)]) (rest := []) mw_absL (c_absL hc0) (by decide) lk_14_733 rfl rfl (Nat.le_of_ble_eq_true rfl) (by decide +kernel) ?_
  show rf_V 10 (rf_sh w) K 0 0 6 ([(0, .ref 252), (1, .int a1), (2, .ref 264), (3, .int a3), (4, .int a4)], [.long y0], rf_MM w m0)
  refine rf_seg C [(.lstore 5, 2), (.goto_w 0, 1), (.lstore 7, 2), (.iconst 0, 1), (.istore 9, 2)] (pc' := 14) (S' := ([(9, .int 0), (7, .long 0), (5, .long y0), (0, .ref 252), (1, .int a1), (2, .ref 264), (3, .int a3), (4, .int a4)], [], rf_MM w m0)) (by decide +kernel) rfl trivial ?_
  refine rf_few [3, 4, 5, 6, 7, 2, 1, 0] rfl ?_
  exact s_X14_times__252_264_14 C hE rf_fuel a1 a3 a4 y0 0 0 m0 hg
-- X14_change
abbrev j_X14_change : rf_J := (14, yX14_change, cX14_change, 2, (some .int))
theorem mw_X14_change : rf_mv j_X14_change (rf_R 14) 1 := ⟨⟨rf_mem 73 (by decide +kernel), rf_mem 73 (by decide +kernel), rf_mem 0 (by decide +kernel), rf_mem 73 (by decide +kernel)⟩, by decide +kernel, by decide⟩
def g_X14_change (w : rf_w) (m : rf_m) (a1 : Int32) : Option (Int32 × rf_m) := rf_b (g_X14_isAngle w (rf_i m 206 0 0) a1) fun y0 m0 => (if y0 = 0 then some ((-2147483648), m0) else (if (m0.1 206 88) = 0 then some ((-2147483648), m0) else rf_g (rf_in a1 80) ((if (m0.1 263 (Int32.toNatClampNeg a1)) = 0 then some ((-2147483648), m0) else rf_bv (g_X14_times__252_264 w m0 0 (6 * a1) 1000) fun m2 => rf_bv (g_X14_copies__253_259 w m2 0 0) fun m3 => rf_bv (g_X14_floors w m3) fun m4 => rf_b (g_X14_isLong w m4) fun y5 m5 => (if y5 = 0 then some ((-2147483648), m5) else rf_b (g_X14_quotientLong w m5) fun y6 m6 => rf_b (g_X14_quotientLong w m6) fun y7 m7 => (if (lg_cmp y6 (Int32.toInt64 (Int64.toInt32 y7))) = 0 then rf_b (g_X14_quotientLong w m7) fun y8 m8 => some (Int64.toInt32 y8, m8) else some ((-2147483648), m7)))))))
theorem c_X14_change {w : rf_w} {m : rf_m} {a1 : Int32} {r : Int32 × rf_m} (hg : g_X14_change w m a1 = some r) : rf_Con j_X14_change 4 (rf_sh w) [.ref 206, .int a1] (rf_MM w m) (some (.int r.1)) (rf_MM w r.2) := by
  refine rf_con j_X14_change 4 ⟨by decide +kernel, rfl, Nat.le_of_ble_eq_true rfl⟩ (fun K C hE => ?_)
  unfold g_X14_change at hg
  show rf_V 2 (rf_sh w) K 0 0 0 ([(0, .ref 206), (1, .int a1)], [], rf_MM w m)
  refine rf_seg C [(.aload 0, 1), (.iconst 0, 1), (.multianewarray 14 0, 3), (.aload 0, 1), (.iload 1, 1)] (pc' := 7) (S' := ([(0, .ref 206), (1, .int a1)], [.int a1, .ref 206], rf_MM w (rf_i m 206 0 0))) (by decide +kernel) rfl trivial ?_
  obtain ⟨y0, m0, hc0, hg⟩ := rf_b_some hg
  refine rf_callv C rf_fit0 j_X14_isAngle (ci := 14) (As := [.int a1]) (rest := []) mw_X14_isAngle (c_X14_isAngle hc0) (by decide) rfl (by decide) lk_14_402 rfl rfl (Nat.le_of_ble_eq_true rfl) (by decide +kernel) ?_
  show rf_V 2 (rf_sh w) K 0 0 10 ([(0, .ref 206), (1, .int a1)], [.int y0], rf_MM w m0)
  refine rf_if_eq C 19 29 (by decide +kernel) (fun hc => ?_) (fun hc => ?_)
  · replace hg := (if_pos hc).symm.trans hg
    refine rf_seg C [(.iconst (-2147483648), 3)] (pc' := 32) (S' := ([(0, .ref 206), (1, .int a1)], [.int ((-2147483648))], rf_MM w m0)) (by decide +kernel) rfl trivial ?_
    obtain rfl := Option.some.inj hg
    exact rf_iret C hE (by decide +kernel)
  · replace hg := (if_neg hc).symm.trans hg
    refine rf_seg C [(.aload 0, 1), (.invokeinterface 14 88, 3)] (pc' := 17) (S' := ([(0, .ref 206), (1, .int a1)], [.int (m0.1 206 88)], rf_MM w m0)) (by decide +kernel) rfl trivial ?_
    refine rf_if_eq C 12 29 (by decide +kernel) (fun hc => ?_) (fun hc => ?_)
    · replace hg := (if_pos hc).symm.trans hg
      refine rf_seg C [(.iconst (-2147483648), 3)] (pc' := 32) (S' := ([(0, .ref 206), (1, .int a1)], [.int ((-2147483648))], rf_MM w m0)) (by decide +kernel) rfl trivial ?_
      obtain rfl := Option.some.inj hg
      exact rf_iret C hE (by decide +kernel)
    · replace hg := (if_neg hc).symm.trans hg
      obtain ⟨q1, hg⟩ := rf_g_some hg
      refine rf_seg C [(.aload 0, 1), (.invokeinterface 14 86, 3), (.iload 1, 1), (.baload, 1)] (pc' := 26) (S' := ([(0, .ref 206), (1, .int a1)], [.int (m0.1 263 (Int32.toNatClampNeg a1))], rf_MM w m0)) (by decide +kernel) rfl (rf_in_of q1) ?_
      refine rf_if_ne C 7 33 (by decide +kernel) (fun hc => ?_) (fun hc => ?_)
      · replace hg := (if_neg hc).symm.trans hg
        refine rf_seg C [(.aload 0, 1), (.invokeinterface 14 75, 3), (.iconst 0, 1), (.aload 0, 1), (.invokeinterface 14 87, 3), (.iconst 6, 2), (.iload 1, 1), (.imul, 1), (.iconst 1000, 3)] (pc' := 49) (S' := ([(0, .ref 206), (1, .int a1)], [.int 1000, .int (6 * a1), .ref 264, .int 0, .ref 252], rf_MM w m0)) (by decide +kernel) rfl trivial ?_
        obtain ⟨m2, hc2, hg⟩ := rf_bv_some hg
        refine rf_calls C rf_fit0 j_X14_times__252_264 (As := [.ref 252, .int 0, .ref 264, .int (6 * a1), .int 1000]) (rest := []) mw_X14_times__252_264 (c_X14_times__252_264 hc2) (by decide) lk_14_770 rfl rfl (Nat.le_of_ble_eq_true rfl) (by decide +kernel) ?_
        show rf_V 2 (rf_sh w) K 0 0 52 ([(0, .ref 206), (1, .int a1)], [], rf_MM w m2)
        refine rf_seg C [(.aload 0, 1), (.invokeinterface 14 76, 3), (.iconst 0, 1), (.aload 0, 1), (.invokeinterface 14 82, 3), (.iconst 0, 1)] (pc' := 62) (S' := ([(0, .ref 206), (1, .int a1)], [.int 0, .ref 259, .int 0, .ref 253], rf_MM w m2)) (by decide +kernel) rfl trivial ?_
        obtain ⟨m3, hc3, hg⟩ := rf_bv_some hg
        refine rf_calls C rf_fit0 j_X14_copies__253_259 (As := [.ref 253, .int 0, .ref 259, .int 0]) (rest := []) mw_X14_copies__253_259 (c_X14_copies__253_259 hc3) (by decide) lk_14_744 rfl rfl (Nat.le_of_ble_eq_true rfl) (by decide +kernel) ?_
        show rf_V 2 (rf_sh w) K 0 0 65 ([(0, .ref 206), (1, .int a1)], [], rf_MM w m3)
        refine rf_seg C [(.aload 0, 1)] (pc' := 66) (S' := ([(0, .ref 206), (1, .int a1)], [.ref 206], rf_MM w m3)) (by decide +kernel) rfl trivial ?_
        obtain ⟨m4, hc4, hg⟩ := rf_bv_some hg
        refine rf_callv C rf_fit0 j_X14_floors (ci := 14) (As := []) (rest := []) mw_X14_floors (c_X14_floors hc4) (by decide) rfl (by decide) lk_14_782 rfl rfl (Nat.le_of_ble_eq_true rfl) (by decide +kernel) ?_
        show rf_V 2 (rf_sh w) K 0 0 69 ([(0, .ref 206), (1, .int a1)], [], rf_MM w m4)
        refine rf_seg C [(.aload 0, 1)] (pc' := 70) (S' := ([(0, .ref 206), (1, .int a1)], [.ref 206], rf_MM w m4)) (by decide +kernel) rfl trivial ?_
        obtain ⟨y5, m5, hc5, hg⟩ := rf_b_some hg
        refine rf_callv C rf_fit0 j_X14_isLong (ci := 14) (As := []) (rest := []) mw_X14_isLong (c_X14_isLong hc5) (by decide) rfl (by decide) lk_14_785 rfl rfl (Nat.le_of_ble_eq_true rfl) (by decide +kernel) ?_
        show rf_V 2 (rf_sh w) K 0 0 73 ([(0, .ref 206), (1, .int a1)], [.int y5], rf_MM w m5)
        refine rf_if_eq C 25 98 (by decide +kernel) (fun hc => ?_) (fun hc => ?_)
        · replace hg := (if_pos hc).symm.trans hg
          refine rf_seg C [(.iconst (-2147483648), 3)] (pc' := 101) (S' := ([(0, .ref 206), (1, .int a1)], [.int ((-2147483648))], rf_MM w m5)) (by decide +kernel) rfl trivial ?_
          obtain rfl := Option.some.inj hg
          exact rf_iret C hE (by decide +kernel)
        · replace hg := (if_neg hc).symm.trans hg
          refine rf_seg C [(.aload 0, 1)] (pc' := 77) (S' := ([(0, .ref 206), (1, .int a1)], [.ref 206], rf_MM w m5)) (by decide +kernel) rfl trivial ?_
          obtain ⟨y6, m6, hc6, hg⟩ := rf_b_some hg
          refine rf_callv C rf_fit0 j_X14_quotientLong (ci := 14) (As := []) (rest := []) mw_X14_quotientLong (c_X14_quotientLong hc6) (by decide) rfl (by decide) lk_14_788 rfl rfl (Nat.le_of_ble_eq_true rfl) (by decide +kernel) ?_
          show rf_V 2 (rf_sh w) K 0 0 80 ([(0, .ref 206), (1, .int a1)], [.long y6], rf_MM w m6)
          refine rf_seg C [(.aload 0, 1)] (pc' := 81) (S' := ([(0, .ref 206), (1, .int a1)], [.ref 206, .long y6], rf_MM w m6)) (by decide +kernel) rfl trivial ?_
          obtain ⟨y7, m7, hc7, hg⟩ := rf_b_some hg
          refine rf_callv C rf_fit0 j_X14_quotientLong (ci := 14) (As := []) (rest := [.long y6]) mw_X14_quotientLong (c_X14_quotientLong hc7) (by decide) rfl (by decide) lk_14_788 rfl rfl (Nat.le_of_ble_eq_true rfl) (by decide +kernel) ?_
          show rf_V 2 (rf_sh w) K 0 0 84 ([(0, .ref 206), (1, .int a1)], [.long y7, .long y6], rf_MM w m7)
          refine rf_seg C [(.l2i, 1), (.i2l, 1), (.lcmp, 1)] (pc' := 87) (S' := ([(0, .ref 206), (1, .int a1)], [.int (lg_cmp y6 (Int32.toInt64 (Int64.toInt32 y7)))], rf_MM w m7)) (by decide +kernel) rfl trivial ?_
          refine rf_if_ne C 11 98 (by decide +kernel) (fun hc => ?_) (fun hc => ?_)
          · replace hg := (if_neg hc).symm.trans hg
            refine rf_seg C [(.iconst (-2147483648), 3)] (pc' := 101) (S' := ([(0, .ref 206), (1, .int a1)], [.int ((-2147483648))], rf_MM w m7)) (by decide +kernel) rfl trivial ?_
            obtain rfl := Option.some.inj hg
            exact rf_iret C hE (by decide +kernel)
          · replace hg := (if_pos hc).symm.trans hg
            refine rf_seg C [(.aload 0, 1)] (pc' := 91) (S' := ([(0, .ref 206), (1, .int a1)], [.ref 206], rf_MM w m7)) (by decide +kernel) rfl trivial ?_
            obtain ⟨y8, m8, hc8, hg⟩ := rf_b_some hg
            refine rf_callv C rf_fit0 j_X14_quotientLong (ci := 14) (As := []) (rest := []) mw_X14_quotientLong (c_X14_quotientLong hc8) (by decide) rfl (by decide) lk_14_788 rfl rfl (Nat.le_of_ble_eq_true rfl) (by decide +kernel) ?_
            show rf_V 2 (rf_sh w) K 0 0 94 ([(0, .ref 206), (1, .int a1)], [.long y8], rf_MM w m8)
            refine rf_seg C [(.l2i, 1)] (pc' := 95) (S' := ([(0, .ref 206), (1, .int a1)], [.int (Int64.toInt32 y8)], rf_MM w m8)) (by decide +kernel) rfl trivial ?_
            refine rf_goto C 6 101 (by decide +kernel) ?_
            obtain rfl := Option.some.inj hg
            exact rf_iret C hE (by decide +kernel)
      · replace hg := (if_pos hc).symm.trans hg
        refine rf_seg C [(.iconst (-2147483648), 3)] (pc' := 32) (S' := ([(0, .ref 206), (1, .int a1)], [.int ((-2147483648))], rf_MM w m0)) (by decide +kernel) rfl trivial ?_
        obtain rfl := Option.some.inj hg
        exact rf_iret C hE (by decide +kernel)
