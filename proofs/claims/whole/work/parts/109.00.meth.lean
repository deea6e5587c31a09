/-! methods as functions, and their contracts (written by wip/tool/gen.py) -/
-- X14_times__257_256
abbrev j_X14_times__257_256 : rf_J := (14, yX14_times, cX14_times, 10, none)
theorem mw_X14_times__257_256 : rf_ms j_X14_times__257_256 5 := ⟨⟨rf_mem 71 (by decide +kernel), rf_mem 0 (by decide +kernel), rf_mem 71 (by decide +kernel)⟩, by decide +kernel, by decide⟩
def g_X14_times__257_256_14_b (w : rf_w) (rec14 : Int32 → Int32 → Int32 → Int64 → Int64 → Int32 → rf_m → Option (rf_m)) (a1 : Int32) (a3 : Int32) (a4 : Int32) (a5 : Int64) (a7 : Int64) (a9 : Int32) (m : rf_m) : Option (rf_m) := (if 6 ≤ a9 then (if (0 : Int32) ≤ a4 then some m else rf_bv (g_X14_turns__257 w m a1) fun m0 => some m0) else rf_g (rf_in (a3 + a9) 384) (rf_vl (a7 + (((Int32.toInt64 (m.1 256 (Int32.toNatClampNeg (a3 + a9)))) &&& 4294967295) * a5)) fun x2 => rf_g (rf_in (a1 + a9) 6) (rf_vl ((Int64.toUInt64 x2 >>> ((Int32.toInt64 32).toUInt64 &&& Int64.toUInt64 63)).toInt64) fun x4 => rec14 a1 a3 a4 a5 x4 (a9 + 1) (rf_i m 257 (Int32.toNatClampNeg (a1 + a9)) (Int64.toInt32 x2)))))
def g_X14_times__257_256_14 (w : rf_w) : Nat → Int32 → Int32 → Int32 → Int64 → Int64 → Int32 → rf_m → Option (rf_m)
  | 0, _, _, _, _, _, _, _ => none
  | n + 1, a1, a3, a4, a5, a7, a9, m => g_X14_times__257_256_14_b w (g_X14_times__257_256_14 w n) a1 a3 a4 a5 a7 a9 m
def g_X14_times__257_256 (w : rf_w) (m : rf_m) (a1 : Int32) (a3 : Int32) (a4 : Int32) : Option (rf_m) := rf_b (g_absL w m (Int32.toInt64 a4)) fun y0 m0 => g_X14_times__257_256_14 w rf_fuel a1 a3 a4 y0 0 0 m0
theorem s_X14_times__257_256_14_b {w : rf_w} {K : rf_K} {r : rf_m} (C : rf_Ctx 14 cX14_times 10 2 (rf_sh w) K) (hE : rf_End none K (rf_sh w) 0 0 none (rf_MM w r)) {rec14 : Int32 → Int32 → Int32 → Int64 → Int64 → Int32 → rf_m → Option (rf_m)} (hr14 : ∀ (a1 : Int32) (a3 : Int32) (a4 : Int32) (a5 : Int64) (a7 : Int64) (a9 : Int32) (m : rf_m), rec14 a1 a3 a4 a5 a7 a9 m = some r → rf_V 10 (rf_sh w) K 0 0 14 ([(0, .ref 257), (1, .int a1), (2, .ref 256), (3, .int a3), (4, .int a4), (5, .long a5), (7, .long a7), (9, .int a9)], [], rf_MM w m)) (a1 : Int32) (a3 : Int32) (a4 : Int32) (a5 : Int64) (a7 : Int64) (a9 : Int32) (m : rf_m) (hg : g_X14_times__257_256_14_b w rec14 a1 a3 a4 a5 a7 a9 m = some r) : rf_V 10 (rf_sh w) K 0 0 14 ([(0, .ref 257), (1, .int a1), (2, .ref 256), (3, .int a3), (4, .int a4), (5, .long a5), (7, .long a7), (9, .int a9)], [], rf_MM w m) := by
  unfold g_X14_times__257_256_14_b at hg
  refine rf_seg C [(.iload 9, 2), (.iconst 6, 2)] (pc' := 18) (S' := ([(0, .ref 257), (1, .int a1), (2, .ref 256), (3, .int a3), (4, .int a4), (5, .long a5), (7, .long a7), (9, .int a9)], [.int 6, .int a9], rf_MM w m)) (by decide +kernel) rfl trivial ?_
  refine rf_icmp_ge C 44 62 (by decide +kernel) (fun hc => ?_) (fun hc => ?_)
  · replace hg := (if_pos hc).symm.trans hg
    refine rf_seg C [(.iload 4, 2)] (pc' := 64) (S' := ([(0, .ref 257), (1, .int a1), (2, .ref 256), (3, .int a3), (4, .int a4), (5, .long a5), (7, .long a7), (9, .int a9)], [.int a4], rf_MM w m)) (by decide +kernel) rfl trivial ?_
    refine rf_if_ge C 8 72 (by decide +kernel) (fun hc => ?_) (fun hc => ?_)
    · replace hg := (if_pos hc).symm.trans hg
      obtain rfl := Option.some.inj hg
      exact rf_vret C hE (by decide +kernel)
    · replace hg := (if_neg hc).symm.trans hg
      refine rf_seg C [(.aload 0, 1), (.iload 1, 1)] (pc' := 69) (S' := ([(0, .ref 257), (1, .int a1), (2, .ref 256), (3, .int a3), (4, .int a4), (5, .long a5), (7, .long a7), (9, .int a9)], [.int a1, .ref 257], rf_MM w m)) (by decide +kernel) rfl trivial ?_
      obtain ⟨m0, hc0, hg⟩ := rf_bv_some hg
      refine rf_calls C rf_fit0 j_X14_turns__257 (As := [.ref 257, .int a1]) (rest := []) mw_X14_turns__257 (c_X14_turns__257 hc0) (by decide) lk_14_736 rfl rfl (Nat.le_of_ble_eq_true rfl) (by decide +kernel) ?_
      show rf_V 10 (rf_sh w) K 0 0 72 ([(0, .ref 257), (1, .int a1), (2, .ref 256), (3, .int a3), (4, .int a4), (5, .long a5), (7, .long a7), (9, .int a9)], [], rf_MM w m0)
      obtain rfl := Option.some.inj hg
      exact rf_vret C hE (by decide +kernel)
  · replace hg := (if_neg hc).symm.trans hg
    obtain ⟨q1, hg⟩ := rf_g_some hg
    refine rf_seg C [(.lload 7, 2), (.aload 2, 1), (.iload 3, 1), (.iload 9, 2), (.iadd, 1), (.iaload, 1), (.i2l, 1), (.goto_w 4294967295, 3), (.land, 1), (.lload 5, 2), (.lmul, 1), (.ladd, 1)] (pc' := 38) (S' := ([(0, .ref 257), (1, .int a1), (2, .ref 256), (3, .int a3), (4, .int a4), (5, .long a5), (7, .long a7), (9, .int a9)], [.long (a7 + (((Int32.toInt64 (m.1 256 (Int32.toNatClampNeg (a3 + a9)))) &&& 4294967295) * a5))], rf_MM w m)) (by decide +kernel) rfl (rf_in_of q1) ?_
    obtain ⟨x2, hx2, hg⟩ := rf_vl_some hg
    refine rf_vl_top hx2 ?_
    obtain ⟨q3, hg⟩ := rf_g_some hg
    refine rf_seg C [(.lstore 7, 2), (.aload 0, 1), (.iload 1, 1), (.iload 9, 2), (.iadd, 1), (.lload 7, 2), (.l2i, 1), (.iastore, 1), (.lload 7, 2), (.iconst 32, 2), (.lushr, 1)] (pc' := 54) (S' := ([(7, .long x2), (0, .ref 257), (1, .int a1), (2, .ref 256), (3, .int a3), (4, .int a4), (5, .long a5), (9, .int a9)], [.long ((Int64.toUInt64 x2 >>> ((Int32.toInt64 32).toUInt64 &&& Int64.toUInt64 63)).toInt64)], rf_MM w (rf_i m 257 (Int32.toNatClampNeg (a1 + a9)) (Int64.toInt32 x2)))) (by decide +kernel) rfl (rf_in_of q3) ?_
    obtain ⟨x4, hx4, hg⟩ := rf_vl_some hg
    refine rf_vl_top hx4 ?_
    refine rf_seg C [(.lstore 7, 2), (.iinc 9 1, 3)] (pc' := 59) (S' := ([(9, .int (a9 + 1)), (7, .long x4), (0, .ref 257), (1, .int a1), (2, .ref 256), (3, .int a3), (4, .int a4), (5, .long a5)], [], rf_MM w (rf_i m 257 (Int32.toNatClampNeg (a1 + a9)) (Int64.toInt32 x2)))) (by decide +kernel) rfl trivial ?_
    refine rf_goto C (-45) 14 (by decide +kernel) ?_
    refine rf_few [2, 3, 4, 5, 6, 7, 1, 0] rfl ?_
    exact hr14 a1 a3 a4 a5 x4 (a9 + 1) (rf_i m 257 (Int32.toNatClampNeg (a1 + a9)) (Int64.toInt32 x2)) hg
theorem s_X14_times__257_256_14 {w : rf_w} {K : rf_K} {r : rf_m} (C : rf_Ctx 14 cX14_times 10 2 (rf_sh w) K) (hE : rf_End none K (rf_sh w) 0 0 none (rf_MM w r)) (n : Nat) : ∀ (a1 : Int32) (a3 : Int32) (a4 : Int32) (a5 : Int64) (a7 : Int64) (a9 : Int32) (m : rf_m), g_X14_times__257_256_14 w n a1 a3 a4 a5 a7 a9 m = some r → rf_V 10 (rf_sh w) K 0 0 14 ([(0, .ref 257), (1, .int a1), (2, .ref 256), (3, .int a3), (4, .int a4), (5, .long a5), (7, .long a7), (9, .int a9)], [], rf_MM w m) := by
  induction n with
  | zero => intro a1 a3 a4 a5 a7 a9 m hg; cases hg
  | succ n ih => intro a1 a3 a4 a5 a7 a9 m hg; exact s_X14_times__257_256_14_b C hE ih a1 a3 a4 a5 a7 a9 m hg
theorem c_X14_times__257_256 {w : rf_w} {m : rf_m} {a1 : Int32} {a3 : Int32} {a4 : Int32} {r : rf_m} (hg : g_X14_times__257_256 w m a1 a3 a4 = some r) : rf_Con j_X14_times__257_256 2 (rf_sh w) [.ref 257, .int a1, .ref 256, .int a3, .int a4] (rf_MM w m) none (rf_MM w r) := by
  refine rf_con j_X14_times__257_256 2 ⟨by decide +kernel, rfl, Nat.le_of_ble_eq_true rfl⟩ (fun K C hE => ?_)
  unfold g_X14_times__257_256 at hg
  show rf_V 10 (rf_sh w) K 0 0 0 ([(0, .ref 257), (1, .int a1), (2, .ref 256), (3, .int a3), (4, .int a4)], [], rf_MM w m)
  refine rf_seg C [(.iload 4, 2), (.i2l, 1)] (pc' := 3) (S' := ([(0, .ref 257), (1, .int a1), (2, .ref 256), (3, .int a3), (4, .int a4)], [.long (Int32.toInt64 a4)], rf_MM w m)) (by decide +kernel) rfl trivial ?_
  obtain ⟨y0, m0, hc0, hg⟩ := rf_b_some hg
  refine rf_calls C rf_fit0 j_absL (As := [.long (Int32.toInt64 a4)]) (rest := []) mw_absL (c_absL hc0) (by decide) lk_14_733 rfl rfl (Nat.le_of_ble_eq_true rfl) (by decide +kernel) ?_
  show rf_V 10 (rf_sh w) K 0 0 6 ([(0, .ref 257), (1, .int a1), (2, .ref 256), (3, .int a3), (4, .int a4)], [.long y0], rf_MM w m0)
  refine rf_seg C [(.lstore 5, 2), (.goto_w 0, 1), (.lstore 7, 2), (.iconst 0, 1), (.istore 9, 2)] (pc' := 14) (S' := ([(9, .int 0), (7, .long 0), (5, .long y0), (0, .ref 257), (1, .int a1), (2, .ref 256), (3, .int a3), (4, .int a4)], [], rf_MM w m0)) (by decide +kernel) rfl trivial ?_
  refine rf_few [3, 4, 5, 6, 7, 2, 1, 0] rfl ?_
  exact s_X14_times__257_256_14 C hE rf_fuel a1 a3 a4 y0 0 0 m0 hg
-- X14_adds__256_257
abbrev j_X14_adds__256_257 : rf_J := (14, yX14_adds, cX14_adds, 7, none)
theorem mw_X14_adds__256_257 : rf_ms j_X14_adds__256_257 4 := ⟨⟨rf_mem 71 (by decide +kernel), rf_mem 0 (by decide +kernel), rf_mem 71 (by decide +kernel)⟩, by decide +kernel, by decide⟩
def g_X14_adds__256_257_6_b (w : rf_w) (rec6 : Int32 → Int32 → Int64 → Int32 → rf_m → Option (rf_m)) (a1 : Int32) (a3 : Int32) (a4 : Int64) (a6 : Int32) (m : rf_m) : Option (rf_m) := (if 6 ≤ a6 then some m else rf_g (rf_in (a1 + a6) 384) (rf_g (rf_in (a3 + a6) 6) (rf_vl (a4 + (((Int32.toInt64 (m.1 256 (Int32.toNatClampNeg (a1 + a6)))) &&& 4294967295) + ((Int32.toInt64 (m.1 257 (Int32.toNatClampNeg (a3 + a6)))) &&& 4294967295))) fun x2 => rf_g (rf_in (a1 + a6) 384) (rf_vl ((Int64.toUInt64 x2 >>> ((Int32.toInt64 32).toUInt64 &&& Int64.toUInt64 63)).toInt64) fun x4 => rec6 a1 a3 x4 (a6 + 1) (rf_i m 256 (Int32.toNatClampNeg (a1 + a6)) (Int64.toInt32 x2))))))
def g_X14_adds__256_257_6 (w : rf_w) : Nat → Int32 → Int32 → Int64 → Int32 → rf_m → Option (rf_m)
  | 0, _, _, _, _, _ => none
  | n + 1, a1, a3, a4, a6, m => g_X14_adds__256_257_6_b w (g_X14_adds__256_257_6 w n) a1 a3 a4 a6 m
def g_X14_adds__256_257 (w : rf_w) (m : rf_m) (a1 : Int32) (a3 : Int32) : Option (rf_m) := g_X14_adds__256_257_6 w rf_fuel a1 a3 0 0 m
theorem s_X14_adds__256_257_6_b {w : rf_w} {K : rf_K} {r : rf_m} (C : rf_Ctx 14 cX14_adds 7 1 (rf_sh w) K) (hE : rf_End none K (rf_sh w) 0 0 none (rf_MM w r)) {rec6 : Int32 → Int32 → Int64 → Int32 → rf_m → Option (rf_m)} (hr6 : ∀ (a1 : Int32) (a3 : Int32) (a4 : Int64) (a6 : Int32) (m : rf_m), rec6 a1 a3 a4 a6 m = some r → rf_V 7 (rf_sh w) K 0 0 6 ([(0, .ref 256), (1, .int a1), (2, .ref 257), (3, .int a3), (4, .long a4), (6, .int a6)], [], rf_MM w m)) (a1 : Int32) (a3 : Int32) (a4 : Int64) (a6 : Int32) (m : rf_m) (hg : g_X14_adds__256_257_6_b w rec6 a1 a3 a4 a6 m = some r) : rf_V 7 (rf_sh w) K 0 0 6 ([(0, .ref 256), (1, .int a1), (2, .ref 257), (3, .int a3), (4, .long a4), (6, .int a6)], [], rf_MM w m) := by
  unfold g_X14_adds__256_257_6_b at hg
  refine rf_seg C [(.iload 6, 2), (.iconst 6, 2)] (pc' := 10) (S' := ([(0, .ref 256), (1, .int a1), (2, .ref 257), (3, .int a3), (4, .long a4), (6, .int a6)], [.int 6, .int a6], rf_MM w m)) (by decide +kernel) rfl trivial ?_
  refine rf_icmp_ge C 53 63 (by decide +kernel) (fun hc => ?_) (fun hc => ?_)
  · replace hg := (if_pos hc).symm.trans hg
    obtain rfl := Option.some.inj hg
    exact rf_vret C hE (by decide +kernel)
  · replace hg := (if_neg hc).symm.trans hg
    obtain ⟨q0, hg⟩ := rf_g_some hg
    obtain ⟨q1, hg⟩ := rf_g_some hg
    refine rf_seg C [(.lload 4, 2), (.aload 0, 1), (.iload 1, 1), (.iload 6, 2), (.iadd, 1), (.iaload, 1), (.i2l, 1), (.goto_w 4294967295, 3), (.land, 1), (.aload 2, 1), (.iload 3, 1), (.iload 6, 2), (.iadd, 1), (.iaload, 1), (.i2l, 1), (.goto_w 4294967295, 3), (.land, 1), (.ladd, 1), (.ladd, 1)] (pc' := 39) (S' := ([(0, .ref 256), (1, .int a1), (2, .ref 257), (3, .int a3), (4, .long a4), (6, .int a6)], [.long (a4 + (((Int32.toInt64 (m.1 256 (Int32.toNatClampNeg (a1 + a6)))) &&& 4294967295) + ((Int32.toInt64 (m.1 257 (Int32.toNatClampNeg (a3 + a6)))) &&& 4294967295)))], rf_MM w m)) (by decide +kernel) rfl (by exact ⟨(rf_in_of q0), (rf_in_of q1)⟩) ?_
    obtain ⟨x2, hx2, hg⟩ := rf_vl_some hg
    refine rf_vl_top hx2 ?_
    obtain ⟨q3, hg⟩ := rf_g_some hg
    refine rf_seg C [(.lstore 4, 2), (.aload 0, 1), (.iload 1, 1), (.iload 6, 2), (.iadd, 1), (.lload 4, 2), (.l2i, 1), (.iastore, 1), (.lload 4, 2), (.iconst 32, 2), (.lushr, 1)] (pc' := 55) (S' := ([(4, .long x2), (0, .ref 256), (1, .int a1), (2, .ref 257), (3, .int a3), (6, .int a6)], [.long ((Int64.toUInt64 x2 >>> ((Int32.toInt64 32).toUInt64 &&& Int64.toUInt64 63)).toInt64)], rf_MM w (rf_i m 256 (Int32.toNatClampNeg (a1 + a6)) (Int64.toInt32 x2)))) (by decide +kernel) rfl (rf_in_of q3) ?_
    obtain ⟨x4, hx4, hg⟩ := rf_vl_some hg
    refine rf_vl_top hx4 ?_
    refine rf_seg C [(.lstore 4, 2), (.iinc 6 1, 3)] (pc' := 60) (S' := ([(6, .int (a6 + 1)), (4, .long x4), (0, .ref 256), (1, .int a1), (2, .ref 257), (3, .int a3)], [], rf_MM w (rf_i m 256 (Int32.toNatClampNeg (a1 + a6)) (Int64.toInt32 x2)))) (by decide +kernel) rfl trivial ?_
    refine rf_goto C (-54) 6 (by decide +kernel) ?_
    refine rf_few [2, 3, 4, 5, 1, 0] rfl ?_
    exact hr6 a1 a3 x4 (a6 + 1) (rf_i m 256 (Int32.toNatClampNeg (a1 + a6)) (Int64.toInt32 x2)) hg
theorem s_X14_adds__256_257_6 {w : rf_w} {K : rf_K} {r : rf_m} (C : rf_Ctx 14 cX14_adds 7 1 (rf_sh w) K) (hE : rf_End none K (rf_sh w) 0 0 none (rf_MM w r)) (n : Nat) : ∀ (a1 : Int32) (a3 : Int32) (a4 : Int64) (a6 : Int32) (m : rf_m), g_X14_adds__256_257_6 w n a1 a3 a4 a6 m = some r → rf_V 7 (rf_sh w) K 0 0 6 ([(0, .ref 256), (1, .int a1), (2, .ref 257), (3, .int a3), (4, .long a4), (6, .int a6)], [], rf_MM w m) := by
  induction n with
  | zero => intro a1 a3 a4 a6 m hg; cases hg
  | succ n ih => intro a1 a3 a4 a6 m hg; exact s_X14_adds__256_257_6_b C hE ih a1 a3 a4 a6 m hg
theorem c_X14_adds__256_257 {w : rf_w} {m : rf_m} {a1 : Int32} {a3 : Int32} {r : rf_m} (hg : g_X14_adds__256_257 w m a1 a3 = some r) : rf_Con j_X14_adds__256_257 1 (rf_sh w) [.ref 256, .int a1, .ref 257, .int a3] (rf_MM w m) none (rf_MM w r) := by
  refine rf_con j_X14_adds__256_257 1 ⟨by decide +kernel, rfl, Nat.le_of_ble_eq_true rfl⟩ (fun K C hE => ?_)
  unfold g_X14_adds__256_257 at hg
  show rf_V 7 (rf_sh w) K 0 0 0 ([(0, .ref 256), (1, .int a1), (2, .ref 257), (3, .int a3)], [], rf_MM w m)
  refine rf_seg C [(.goto_w 0, 1), (.lstore 4, 2), (.iconst 0, 1), (.istore 6, 2)] (pc' := 6) (S' := ([(6, .int 0), (4, .long 0), (0, .ref 256), (1, .int a1), (2, .ref 257), (3, .int a3)], [], rf_MM w m)) (by decide +kernel) rfl trivial ?_
  refine rf_few [2, 3, 4, 5, 1, 0] rfl ?_
  exact s_X14_adds__256_257_6 C hE rf_fuel a1 a3 0 0 m hg
-- X14_copies__258_256
abbrev j_X14_copies__258_256 : rf_J := (14, yX14_copies, cX14_copies, 5, none)
theorem mw_X14_copies__258_256 : rf_ms j_X14_copies__258_256 4 := ⟨⟨rf_mem 71 (by decide +kernel), rf_mem 0 (by decide +kernel), rf_mem 71 (by decide +kernel)⟩, by decide +kernel, by decide⟩
def g_X14_copies__258_256_3_b (w : rf_w) (rec3 : Int32 → Int32 → Int32 → rf_m → Option (rf_m)) (a1 : Int32) (a3 : Int32) (a4 : Int32) (m : rf_m) : Option (rf_m) := (if 6 ≤ a4 then some m else rf_g (rf_in (a3 + a4) 384) (rf_g (rf_in (a1 + a4) 36) (rec3 a1 a3 (a4 + 1) (rf_i m 258 (Int32.toNatClampNeg (a1 + a4)) (m.1 256 (Int32.toNatClampNeg (a3 + a4)))))))
def g_X14_copies__258_256_3 (w : rf_w) : Nat → Int32 → Int32 → Int32 → rf_m → Option (rf_m)
  | 0, _, _, _, _ => none
  | n + 1, a1, a3, a4, m => g_X14_copies__258_256_3_b w (g_X14_copies__258_256_3 w n) a1 a3 a4 m
def g_X14_copies__258_256 (w : rf_w) (m : rf_m) (a1 : Int32) (a3 : Int32) : Option (rf_m) := g_X14_copies__258_256_3 w rf_fuel a1 a3 0 m
theorem s_X14_copies__258_256_3_b {w : rf_w} {K : rf_K} {r : rf_m} (C : rf_Ctx 14 cX14_copies 5 1 (rf_sh w) K) (hE : rf_End none K (rf_sh w) 0 0 none (rf_MM w r)) {rec3 : Int32 → Int32 → Int32 → rf_m → Option (rf_m)} (hr3 : ∀ (a1 : Int32) (a3 : Int32) (a4 : Int32) (m : rf_m), rec3 a1 a3 a4 m = some r → rf_V 5 (rf_sh w) K 0 0 3 ([(0, .ref 258), (1, .int a1), (2, .ref 256), (3, .int a3), (4, .int a4)], [], rf_MM w m)) (a1 : Int32) (a3 : Int32) (a4 : Int32) (m : rf_m) (hg : g_X14_copies__258_256_3_b w rec3 a1 a3 a4 m = some r) : rf_V 5 (rf_sh w) K 0 0 3 ([(0, .ref 258), (1, .int a1), (2, .ref 256), (3, .int a3), (4, .int a4)], [], rf_MM w m) := by
  unfold g_X14_copies__258_256_3_b at hg
  refine rf_seg C [(.iload 4, 2), (.iconst 6, 2)] (pc' := 7) (S' := ([(0, .ref 258), (1, .int a1), (2, .ref 256), (3, .int a3), (4, .int a4)], [.int 6, .int a4], rf_MM w m)) (by decide +kernel) rfl trivial ?_
  refine rf_icmp_ge C 21 28 (by decide +kernel) (fun hc => ?_) (fun hc => ?_)
  · replace hg := (if_pos hc).symm.trans hg
    obtain rfl := Option.some.inj hg
    exact rf_vret C hE (by decide +kernel)
  · replace hg := (if_neg hc).symm.trans hg
    obtain ⟨q0, hg⟩ := rf_g_some hg
    obtain ⟨q1, hg⟩ := rf_g_some hg
    refine rf_seg C [(.aload 0, 1), (.iload 1, 1), (.iload 4, 2), (.iadd, 1), (.aload 2, 1), (.iload 3, 1), (.iload 4, 2), (.iadd, 1), (.iaload, 1), (.iastore, 1), (.iinc 4 1, 3)] (pc' := 25) (S' := ([(4, .int (a4 + 1)), (0, .ref 258), (1, .int a1), (2, .ref 256), (3, .int a3)], [], rf_MM w (rf_i m 258 (Int32.toNatClampNeg (a1 + a4)) (m.1 256 (Int32.toNatClampNeg (a3 + a4)))))) (by decide +kernel) rfl (by exact ⟨(rf_in_of q0), (rf_in_of q1)⟩) ?_
    refine rf_goto C (-22) 3 (by decide +kernel) ?_
    refine rf_few [1, 2, 3, 4, 0] rfl ?_
    exact hr3 a1 a3 (a4 + 1) (rf_i m 258 (Int32.toNatClampNeg (a1 + a4)) (m.1 256 (Int32.toNatClampNeg (a3 + a4)))) hg
theorem s_X14_copies__258_256_3 {w : rf_w} {K : rf_K} {r : rf_m} (C : rf_Ctx 14 cX14_copies 5 1 (rf_sh w) K) (hE : rf_End none K (rf_sh w) 0 0 none (rf_MM w r)) (n : Nat) : ∀ (a1 : Int32) (a3 : Int32) (a4 : Int32) (m : rf_m), g_X14_copies__258_256_3 w n a1 a3 a4 m = some r → rf_V 5 (rf_sh w) K 0 0 3 ([(0, .ref 258), (1, .int a1), (2, .ref 256), (3, .int a3), (4, .int a4)], [], rf_MM w m) := by
  induction n with
  | zero => intro a1 a3 a4 m hg; cases hg
  | succ n ih => intro a1 a3 a4 m hg; exact s_X14_copies__258_256_3_b C hE ih a1 a3 a4 m hg
theorem c_X14_copies__258_256 {w : rf_w} {m : rf_m} {a1 : Int32} {a3 : Int32} {r : rf_m} (hg : g_X14_copies__258_256 w m a1 a3 = some r) : rf_Con j_X14_copies__258_256 1 (rf_sh w) [.ref 258, .int a1, .ref 256, .int a3] (rf_MM w m) none (rf_MM w r) := by
  refine rf_con j_X14_copies__258_256 1 ⟨by decide +kernel, rfl, Nat.le_of_ble_eq_true rfl⟩ (fun K C hE => ?_)
  unfold g_X14_copies__258_256 at hg
  show rf_V 5 (rf_sh w) K 0 0 0 ([(0, .ref 258), (1, .int a1), (2, .ref 256), (3, .int a3)], [], rf_MM w m)
  refine rf_seg C [(.iconst 0, 1), (.istore 4, 2)] (pc' := 3) (S' := ([(4, .int 0), (0, .ref 258), (1, .int a1), (2, .ref 256), (3, .int a3)], [], rf_MM w m)) (by decide +kernel) rfl trivial ?_
  refine rf_few [1, 2, 3, 4, 0] rfl ?_
  exact s_X14_copies__258_256_3 C hE rf_fuel a1 a3 0 m hg
-- X14_set__256
abbrev j_X14_set__256 : rf_J := (14, yX14_set, cX14_set, 5, none)
theorem mw_X14_set__256 : rf_ms j_X14_set__256 3 := ⟨⟨rf_mem 71 (by decide +kernel), rf_mem 0 (by decide +kernel), rf_mem 71 (by decide +kernel)⟩, by decide +kernel, by decide⟩
def g_X14_set__256_50 (w : rf_w) (rec3 : Int32 → Int64 → Int32 → rf_m → Option (rf_m)) (a1 : Int32) (a2 : Int64) (a4 : Int32) (s1 : Int32) (s2 : Int32) (m : rf_m) : Option (rf_m) := rf_g (rf_in s1 384) (rec3 a1 a2 (a4 + 1) (rf_i m 256 (Int32.toNatClampNeg s1) s2))
def g_X14_set__256_3_b (w : rf_w) (rec3 : Int32 → Int64 → Int32 → rf_m → Option (rf_m)) (a1 : Int32) (a2 : Int64) (a4 : Int32) (m : rf_m) : Option (rf_m) := (if 6 ≤ a4 then some m else (if a4 = 0 then g_X14_set__256_50 w rec3 a1 a2 a4 (a1 + a4) (Int64.toInt32 a2) m else (if a4 = 1 then g_X14_set__256_50 w rec3 a1 a2 a4 (a1 + a4) (Int64.toInt32 (a2 >>> (Int32.toInt64 32 &&& 63))) m else (if (0 : Int32) ≤ (lg_cmp a2 0) then g_X14_set__256_50 w rec3 a1 a2 a4 (a1 + a4) 0 m else g_X14_set__256_50 w rec3 a1 a2 a4 (a1 + a4) ((-1)) m))))
def g_X14_set__256_3 (w : rf_w) : Nat → Int32 → Int64 → Int32 → rf_m → Option (rf_m)
  | 0, _, _, _, _ => none
  | n + 1, a1, a2, a4, m => g_X14_set__256_3_b w (g_X14_set__256_3 w n) a1 a2 a4 m
def g_X14_set__256 (w : rf_w) (m : rf_m) (a1 : Int32) (a2 : Int64) : Option (rf_m) := g_X14_set__256_3 w rf_fuel a1 a2 0 m
theorem s_X14_set__256_50 {w : rf_w} {K : rf_K} {r : rf_m} (C : rf_Ctx 14 cX14_set 5 1 (rf_sh w) K) (hE : rf_End none K (rf_sh w) 0 0 none (rf_MM w r)) {rec3 : Int32 → Int64 → Int32 → rf_m → Option (rf_m)} (hr3 : ∀ (a1 : Int32) (a2 : Int64) (a4 : Int32) (m : rf_m), rec3 a1 a2 a4 m = some r → rf_V 5 (rf_sh w) K 0 0 3 ([(0, .ref 256), (1, .int a1), (2, .long a2), (4, .int a4)], [], rf_MM w m)) (a1 : Int32) (a2 : Int64) (a4 : Int32) (s1 : Int32) (s2 : Int32) (m : rf_m) (hg : g_X14_set__256_50 w rec3 a1 a2 a4 s1 s2 m = some r) : rf_V 5 (rf_sh w) K 0 0 50 ([(0, .ref 256), (1, .int a1), (2, .long a2), (4, .int a4)], [.int s2, .int s1, .ref 256], rf_MM w m) := by
  unfold g_X14_set__256_50 at hg
  obtain ⟨q0, hg⟩ := rf_g_some hg
  refine rf_seg C [(.iastore, 1), (.iinc 4 1, 3)] (pc' := 54) (S' := ([(4, .int (a4 + 1)), (0, .ref 256), (1, .int a1), (2, .long a2)], [], rf_MM w (rf_i m 256 (Int32.toNatClampNeg s1) s2))) (by decide +kernel) rfl (rf_in_of q0) ?_
  refine rf_goto C (-51) 3 (by decide +kernel) ?_
  refine rf_few [1, 2, 3, 0] rfl ?_
  exact hr3 a1 a2 (a4 + 1) (rf_i m 256 (Int32.toNatClampNeg s1) s2) hg
theorem s_X14_set__256_3_b {w : rf_w} {K : rf_K} {r : rf_m} (C : rf_Ctx 14 cX14_set 5 1 (rf_sh w) K) (hE : rf_End none K (rf_sh w) 0 0 none (rf_MM w r)) {rec3 : Int32 → Int64 → Int32 → rf_m → Option (rf_m)} (hr3 : ∀ (a1 : Int32) (a2 : Int64) (a4 : Int32) (m : rf_m), rec3 a1 a2 a4 m = some r → rf_V 5 (rf_sh w) K 0 0 3 ([(0, .ref 256), (1, .int a1), (2, .long a2), (4, .int a4)], [], rf_MM w m)) (a1 : Int32) (a2 : Int64) (a4 : Int32) (m : rf_m) (hg : g_X14_set__256_3_b w rec3 a1 a2 a4 m = some r) : rf_V 5 (rf_sh w) K 0 0 3 ([(0, .ref 256), (1, .int a1), (2, .long a2), (4, .int a4)], [], rf_MM w m) := by
  unfold g_X14_set__256_3_b at hg
  refine rf_seg C [(.iload 4, 2), (.iconst 6, 2)] (pc' := 7) (S' := ([(0, .ref 256), (1, .int a1), (2, .long a2), (4, .int a4)], [.int 6, .int a4], rf_MM w m)) (by decide +kernel) rfl trivial ?_
  refine rf_icmp_ge C 50 57 (by decide +kernel) (fun hc => ?_) (fun hc => ?_)
  · replace hg := (if_pos hc).symm.trans hg
    obtain rfl := Option.some.inj hg
    exact rf_vret C hE (by decide +kernel)
  · replace hg := (if_neg hc).symm.trans hg
    refine rf_seg C [(.aload 0, 1), (.iload 1, 1), (.iload 4, 2), (.iadd, 1), (.iload 4, 2)] (pc' := 17) (S' := ([(0, .ref 256), (1, .int a1), (2, .long a2), (4, .int a4)], [.int a4, .int (a1 + a4), .ref 256], rf_MM w m)) (by decide +kernel) rfl trivial ?_
    refine rf_if_ne C 8 25 (by decide +kernel) (fun hc => ?_) (fun hc => ?_)
    · replace hg := (if_neg hc).symm.trans hg
      refine rf_seg C [(.iload 4, 2), (.iconst 1, 1)] (pc' := 28) (S' := ([(0, .ref 256), (1, .int a1), (2, .long a2), (4, .int a4)], [.int 1, .int a4, .int (a1 + a4), .ref 256], rf_MM w m)) (by decide +kernel) rfl trivial ?_
      refine rf_icmp_ne C 11 39 (by decide +kernel) (fun hc => ?_) (fun hc => ?_)
      · replace hg := (if_neg hc).symm.trans hg
        refine rf_seg C [(.lload 2, 1), (.goto_w 0, 1), (.lcmp, 1)] (pc' := 42) (S' := ([(0, .ref 256), (1, .int a1), (2, .long a2), (4, .int a4)], [.int (lg_cmp a2 0), .int (a1 + a4), .ref 256], rf_MM w m)) (by decide +kernel) rfl trivial ?_
        refine rf_if_ge C 7 49 (by decide +kernel) (fun hc => ?_) (fun hc => ?_)
        · replace hg := (if_pos hc).symm.trans hg
          refine rf_seg C [(.iconst 0, 1)] (pc' := 50) (S' := ([(0, .ref 256), (1, .int a1), (2, .long a2), (4, .int a4)], [.int 0, .int (a1 + a4), .ref 256], rf_MM w m)) (by decide +kernel) rfl trivial ?_
          refine rf_few [0, 1, 2, 3] rfl ?_
          exact s_X14_set__256_50 C hE hr3 a1 a2 a4 (a1 + a4) 0 m hg
        · replace hg := (if_neg hc).symm.trans hg
          refine rf_seg C [(.iconst (-1), 1)] (pc' := 46) (S' := ([(0, .ref 256), (1, .int a1), (2, .long a2), (4, .int a4)], [.int ((-1)), .int (a1 + a4), .ref 256], rf_MM w m)) (by decide +kernel) rfl trivial ?_
          refine rf_goto C 4 50 (by decide +kernel) ?_
          refine rf_few [0, 1, 2, 3] rfl ?_
          exact s_X14_set__256_50 C hE hr3 a1 a2 a4 (a1 + a4) ((-1)) m hg
      · replace hg := (if_pos hc).symm.trans hg
        refine rf_seg C [(.lload 2, 1), (.iconst 32, 2), (.lshr, 1), (.l2i, 1)] (pc' := 36) (S' := ([(0, .ref 256), (1, .int a1), (2, .long a2), (4, .int a4)], [.int (Int64.toInt32 (a2 >>> (Int32.toInt64 32 &&& 63))), .int (a1 + a4), .ref 256], rf_MM w m)) (by decide +kernel) rfl trivial ?_
        refine rf_goto C 14 50 (by decide +kernel) ?_
        refine rf_few [0, 1, 2, 3] rfl ?_
        exact s_X14_set__256_50 C hE hr3 a1 a2 a4 (a1 + a4) (Int64.toInt32 (a2 >>> (Int32.toInt64 32 &&& 63))) m hg
    · replace hg := (if_pos hc).symm.trans hg
      refine rf_seg C [(.lload 2, 1), (.l2i, 1)] (pc' := 22) (S' := ([(0, .ref 256), (1, .int a1), (2, .long a2), (4, .int a4)], [.int (Int64.toInt32 a2), .int (a1 + a4), .ref 256], rf_MM w m)) (by decide +kernel) rfl trivial ?_
      refine rf_goto C 28 50 (by decide +kernel) ?_
      refine rf_few [0, 1, 2, 3] rfl ?_
      exact s_X14_set__256_50 C hE hr3 a1 a2 a4 (a1 + a4) (Int64.toInt32 a2) m hg
theorem s_X14_set__256_3 {w : rf_w} {K : rf_K} {r : rf_m} (C : rf_Ctx 14 cX14_set 5 1 (rf_sh w) K) (hE : rf_End none K (rf_sh w) 0 0 none (rf_MM w r)) (n : Nat) : ∀ (a1 : Int32) (a2 : Int64) (a4 : Int32) (m : rf_m), g_X14_set__256_3 w n a1 a2 a4 m = some r → rf_V 5 (rf_sh w) K 0 0 3 ([(0, .ref 256), (1, .int a1), (2, .long a2), (4, .int a4)], [], rf_MM w m) := by
  induction n with
  | zero => intro a1 a2 a4 m hg; cases hg
  | succ n ih => intro a1 a2 a4 m hg; exact s_X14_set__256_3_b C hE ih a1 a2 a4 m hg
theorem c_X14_set__256 {w : rf_w} {m : rf_m} {a1 : Int32} {a2 : Int64} {r : rf_m} (hg : g_X14_set__256 w m a1 a2 = some r) : rf_Con j_X14_set__256 1 (rf_sh w) [.ref 256, .int a1, .long a2] (rf_MM w m) none (rf_MM w r) := by
  refine rf_con j_X14_set__256 1 ⟨by decide +kernel, rfl, Nat.le_of_ble_eq_true rfl⟩ (fun K C hE => ?_)
  unfold g_X14_set__256 at hg
  show rf_V 5 (rf_sh w) K 0 0 0 ([(0, .ref 256), (1, .int a1), (2, .long a2)], [], rf_MM w m)
  refine rf_seg C [(.iconst 0, 1), (.istore 4, 2)] (pc' := 3) (S' := ([(4, .int 0), (0, .ref 256), (1, .int a1), (2, .long a2)], [], rf_MM w m)) (by decide +kernel) rfl trivial ?_
  refine rf_few [1, 2, 3, 0] rfl ?_
  exact s_X14_set__256_3 C hE rf_fuel a1 a2 0 m hg
-- X14_determinant__258
abbrev j_X14_determinant__258 : rf_J := (14, yX14_determinant, cX14_determinant, 10, none)
theorem mw_X14_determinant__258 : rf_mv j_X14_determinant__258 (rf_R 14) 4 := ⟨⟨rf_mem 71 (by decide +kernel), rf_mem 71 (by decide +kernel), rf_mem 0 (by decide +kernel), rf_mem 71 (by decide +kernel)⟩, by decide +kernel, by decide⟩
def g_X14_determinant__258_172 (w : rf_w) (rec12 : Int32 → Int32 → Int32 → Int32 → rf_m → Option (rf_m)) (rec45 : Int32 → Int32 → Int32 → Int32 → Int32 → Int32 → rf_m → Option (rf_m)) (a1 : Int32) (a2 : Int32) (a4 : Int32) (a5 : Int32) (a6 : Int32) (a7 : Int32) (m : rf_m) : Option (rf_m) := rec45 a1 a2 a4 a5 a6 (a7 + 1) m
def g_X14_determinant__258_152 (w : rf_w) (rec12 : Int32 → Int32 → Int32 → Int32 → rf_m → Option (rf_m)) (rec45 : Int32 → Int32 → Int32 → Int32 → Int32 → Int32 → rf_m → Option (rf_m)) (a1 : Int32) (a2 : Int32) (a4 : Int32) (a5 : Int32) (a6 : Int32) (a7 : Int32) (s1 : Int32) (s3 : Int32) (s4 : Int32) (m : rf_m) : Option (rf_m) := rf_bv (g_X14_times__257_256 w m s1 s3 s4) fun m0 => rf_bv (g_X14_adds__256_257 w m0 (6 * a5) 0) fun m1 => g_X14_determinant__258_172 w rec12 rec45 a1 a2 a4 a5 a6 a7 m1
def g_X14_determinant__258_116 (w : rf_w) (rec12 : Int32 → Int32 → Int32 → Int32 → rf_m → Option (rf_m)) (rec45 : Int32 → Int32 → Int32 → Int32 → Int32 → Int32 → rf_m → Option (rf_m)) (a1 : Int32) (a2 : Int32) (a4 : Int32) (a5 : Int32) (a6 : Int32) (a7 : Int32) (a8 : Int32) (s0 : Int32) (m : rf_m) : Option (rf_m) := (if s0 = 0 then g_X14_determinant__258_152 w rec12 rec45 a1 a2 a4 a5 a6 a7 0 (6 * (a5 &&& (((1 : Int32) <<< (a7 &&& 31)) ^^^ ((-1))))) a8 m else g_X14_determinant__258_152 w rec12 rec45 a1 a2 a4 a5 a6 a7 0 (6 * (a5 &&& (((1 : Int32) <<< (a7 &&& 31)) ^^^ ((-1))))) (-a8) m)
def g_X14_determinant__258_93 (w : rf_w) (rec12 : Int32 → Int32 → Int32 → Int32 → rf_m → Option (rf_m)) (rec45 : Int32 → Int32 → Int32 → Int32 → Int32 → Int32 → rf_m → Option (rf_m)) (a1 : Int32) (a2 : Int32) (a4 : Int32) (a5 : Int32) (a6 : Int32) (a7 : Int32) (s0 : Int32) (m : rf_m) : Option (rf_m) := rf_b (g_X14_bits w m (a5 >>> ((a7 + 1) &&& 31))) fun y0 m0 => (if (y0 &&& 1) = 1 then g_X14_determinant__258_116 w rec12 rec45 a1 a2 a4 a5 a6 a7 s0 1 m0 else g_X14_determinant__258_116 w rec12 rec45 a1 a2 a4 a5 a6 a7 s0 0 m0)
def g_X14_determinant__258_45_b (w : rf_w) (rec12 : Int32 → Int32 → Int32 → Int32 → rf_m → Option (rf_m)) (rec45 : Int32 → Int32 → Int32 → Int32 → Int32 → Int32 → rf_m → Option (rf_m)) (a1 : Int32) (a2 : Int32) (a4 : Int32) (a5 : Int32) (a6 : Int32) (a7 : Int32) (m : rf_m) : Option (rf_m) := (if a1 ≤ a7 then rec12 a1 a2 a4 (a5 + 1) m else (if ((a5 >>> (a7 &&& 31)) &&& 1) = 0 then g_X14_determinant__258_172 w rec12 rec45 a1 a2 a4 a5 a6 a7 m else (if a7 = a2 then rf_g (rf_in a6 6) (g_X14_determinant__258_93 w rec12 rec45 a1 a2 a4 a5 a6 a7 (m.1 255 (Int32.toNatClampNeg a6)) m) else rf_g (rf_in ((6 * a6) + a7) 36) (g_X14_determinant__258_93 w rec12 rec45 a1 a2 a4 a5 a6 a7 (m.1 254 (Int32.toNatClampNeg ((6 * a6) + a7))) m))))
def g_X14_determinant__258_45 (w : rf_w) (rec12 : Int32 → Int32 → Int32 → Int32 → rf_m → Option (rf_m)) : Nat → Int32 → Int32 → Int32 → Int32 → Int32 → Int32 → rf_m → Option (rf_m)
  | 0, _, _, _, _, _, _, _ => none
  | n + 1, a1, a2, a4, a5, a6, a7, m => g_X14_determinant__258_45_b w rec12 (g_X14_determinant__258_45 w rec12 n) a1 a2 a4 a5 a6 a7 m
def g_X14_determinant__258_12_b (w : rf_w) (rec12 : Int32 → Int32 → Int32 → Int32 → rf_m → Option (rf_m)) (a1 : Int32) (a2 : Int32) (a4 : Int32) (a5 : Int32) (m : rf_m) : Option (rf_m) := (if ((1 : Int32) <<< (a1 &&& 31)) ≤ a5 then rf_bv (g_X14_copies__258_256 w m a4 (6 * (((1 : Int32) <<< (a1 &&& 31)) - 1))) fun m0 => some m0 else rf_bv (g_X14_set__256 w m (6 * a5) 0) fun m1 => rf_b (g_X14_bits w m1 a5) fun y2 m2 => g_X14_determinant__258_45 w rec12 rf_fuel a1 a2 a4 a5 (y2 - 1) 0 m2)
def g_X14_determinant__258_12 (w : rf_w) : Nat → Int32 → Int32 → Int32 → Int32 → rf_m → Option (rf_m)
  | 0, _, _, _, _, _ => none
  | n + 1, a1, a2, a4, a5, m => g_X14_determinant__258_12_b w (g_X14_determinant__258_12 w n) a1 a2 a4 a5 m
def g_X14_determinant__258 (w : rf_w) (m : rf_m) (a1 : Int32) (a2 : Int32) (a4 : Int32) : Option (rf_m) := rf_bv (g_X14_set__256 w m 0 1) fun m0 => g_X14_determinant__258_12 w rf_fuel a1 a2 a4 1 m0
theorem s_X14_determinant__258_172 {w : rf_w} {K : rf_K} {r : rf_m} (C : rf_Ctx 14 cX14_determinant 10 3 (rf_sh w) K) (hE : rf_End none K (rf_sh w) 0 0 none (rf_MM w r)) {rec12 : Int32 → Int32 → Int32 → Int32 → rf_m → Option (rf_m)} {rec45 : Int32 → Int32 → Int32 → Int32 → Int32 → Int32 → rf_m → Option (rf_m)} (hr12 : ∀ (a1 : Int32) (a2 : Int32) (a4 : Int32) (a5 : Int32) (m : rf_m), rec12 a1 a2 a4 a5 m = some r → rf_V 10 (rf_sh w) K 0 0 12 ([(0, .ref 206), (1, .int a1), (2, .int a2), (3, .ref 258), (4, .int a4), (5, .int a5)], [], rf_MM w m)) (hr45 : ∀ (a1 : Int32) (a2 : Int32) (a4 : Int32) (a5 : Int32) (a6 : Int32) (a7 : Int32) (m : rf_m), rec45 a1 a2 a4 a5 a6 a7 m = some r → rf_V 10 (rf_sh w) K 0 0 45 ([(0, .ref 206), (1, .int a1), (2, .int a2), (3, .ref 258), (4, .int a4), (5, .int a5), (6, .int a6), (7, .int a7)], [], rf_MM w m)) (a1 : Int32) (a2 : Int32) (a4 : Int32) (a5 : Int32) (a6 : Int32) (a7 : Int32) (m : rf_m) (hg : g_X14_determinant__258_172 w rec12 rec45 a1 a2 a4 a5 a6 a7 m = some r) : rf_V 10 (rf_sh w) K 0 0 172 ([(0, .ref 206), (1, .int a1), (2, .int a2), (3, .ref 258), (4, .int a4), (5, .int a5), (6, .int a6), (7, .int a7)], [], rf_MM w m) := by
  unfold g_X14_determinant__258_172 at hg
  refine rf_seg C [(.iinc 7 1, 3)] (pc' := 175) (S' := ([(7, .int (a7 + 1)), (0, .ref 206), (1, .int a1), (2, .int a2), (3, .ref 258), (4, .int a4), (5, .int a5), (6, .int a6)], [], rf_MM w m)) (by decide +kernel) rfl trivial ?_
  refine rf_goto C (-130) 45 (by decide +kernel) ?_
  refine rf_few [1, 2, 3, 4, 5, 6, 7, 0] rfl ?_
  exact hr45 a1 a2 a4 a5 a6 (a7 + 1) m hg
theorem s_X14_determinant__258_152 {w : rf_w} {K : rf_K} {r : rf_m} (C : rf_Ctx 14 cX14_determinant 10 3 (rf_sh w) K) (hE : rf_End none K (rf_sh w) 0 0 none (rf_MM w r)) {rec12 : Int32 → Int32 → Int32 → Int32 → rf_m → Option (rf_m)} {rec45 : Int32 → Int32 → Int32 → Int32 → Int32 → Int32 → rf_m → Option (rf_m)} (hr12 : ∀ (a1 : Int32) (a2 : Int32) (a4 : Int32) (a5 : Int32) (m : rf_m), rec12 a1 a2 a4 a5 m = some r → rf_V 10 (rf_sh w) K 0 0 12 ([(0, .ref 206), (1, .int a1), (2, .int a2), (3, .ref 258), (4, .int a4), (5, .int a5)], [], rf_MM w m)) (hr45 : ∀ (a1 : Int32) (a2 : Int32) (a4 : Int32) (a5 : Int32) (a6 : Int32) (a7 : Int32) (m : rf_m), rec45 a1 a2 a4 a5 a6 a7 m = some r → rf_V 10 (rf_sh w) K 0 0 45 ([(0, .ref 206), (1, .int a1), (2, .int a2), (3, .ref 258), (4, .int a4), (5, .int a5), (6, .int a6), (7, .int a7)], [], rf_MM w m)) (a1 : Int32) (a2 : Int32) (a4 : Int32) (a5 : Int32) (a6 : Int32) (a7 : Int32) (s1 : Int32) (s3 : Int32) (s4 : Int32) (m : rf_m) (hg : g_X14_determinant__258_152 w rec12 rec45 a1 a2 a4 a5 a6 a7 s1 s3 s4 m = some r) : rf_V 10 (rf_sh w) K 0 0 152 ([(0, .ref 206), (1, .int a1), (2, .int a2), (3, .ref 258), (4, .int a4), (5, .int a5), (6, .int a6), (7, .int a7)], [.int s4, .int s3, .ref 256, .int s1, .ref 257], rf_MM w m) := by
  unfold g_X14_determinant__258_152 at hg
  obtain ⟨m0, hc0, hg⟩ := rf_bv_some hg
  refine rf_calls C rf_fit0 j_X14_times__257_256 (As := [.ref 257, .int s1, .ref 256, .int s3, .int s4]) (rest := []) mw_X14_times__257_256 (c_X14_times__257_256 hc0) (by decide) lk_14_770 rfl rfl (Nat.le_of_ble_eq_true rfl) (by decide +kernel) ?_
  show rf_V 10 (rf_sh w) K 0 0 155 ([(0, .ref 206), (1, .int a1), (2, .int a2), (3, .ref 258), (4, .int a4), (5, .int a5), (6, .int a6), (7, .int a7)], [], rf_MM w m0)
  refine rf_seg C [(.aload 0, 1), (.invokeinterface 14 79, 3), (.iconst 6, 2), (.iload 5, 2), (.imul, 1), (.aload 0, 1), (.invokeinterface 14 80, 3), (.iconst 0, 1)] (pc' := 169) (S' := ([(0, .ref 206), (1, .int a1), (2, .int a2), (3, .ref 258), (4, .int a4), (5, .int a5), (6, .int a6), (7, .int a7)], [.int 0, .ref 257, .int (6 * a5), .ref 256], rf_MM w m0)) (by decide +kernel) rfl trivial ?_
  obtain ⟨m1, hc1, hg⟩ := rf_bv_some hg
  refine rf_calls C rf_fit0 j_X14_adds__256_257 (As := [.ref 256, .int (6 * a5), .ref 257, .int 0]) (rest := []) mw_X14_adds__256_257 (c_X14_adds__256_257 hc1) (by decide) lk_14_748 rfl rfl (Nat.le_of_ble_eq_true rfl) (by decide +kernel) ?_
  show rf_V 10 (rf_sh w) K 0 0 172 ([(0, .ref 206), (1, .int a1), (2, .int a2), (3, .ref 258), (4, .int a4), (5, .int a5), (6, .int a6), (7, .int a7)], [], rf_MM w m1)
  refine rf_few [0, 1, 2, 3, 4, 5, 6, 7] rfl ?_
  exact s_X14_determinant__258_172 C hE hr12 hr45 a1 a2 a4 a5 a6 a7 m1 hg
theorem s_X14_determinant__258_116 {w : rf_w} {K : rf_K} {r : rf_m} (C : rf_Ctx 14 cX14_determinant 10 3 (rf_sh w) K) (hE : rf_End none K (rf_sh w) 0 0 none (rf_MM w r)) {rec12 : Int32 → Int32 → Int32 → Int32 → rf_m → Option (rf_m)} {rec45 : Int32 → Int32 → Int32 → Int32 → Int32 → Int32 → rf_m → Option (rf_m)} (hr12 : ∀ (a1 : Int32) (a2 : Int32) (a4 : Int32) (a5 : Int32) (m : rf_m), rec12 a1 a2 a4 a5 m = some r → rf_V 10 (rf_sh w) K 0 0 12 ([(0, .ref 206), (1, .int a1), (2, .int a2), (3, .ref 258), (4, .int a4), (5, .int a5)], [], rf_MM w m)) (hr45 : ∀ (a1 : Int32) (a2 : Int32) (a4 : Int32) (a5 : Int32) (a6 : Int32) (a7 : Int32) (m : rf_m), rec45 a1 a2 a4 a5 a6 a7 m = some r → rf_V 10 (rf_sh w) K 0 0 45 ([(0, .ref 206), (1, .int a1), (2, .int a2), (3, .ref 258), (4, .int a4), (5, .int a5), (6, .int a6), (7, .int a7)], [], rf_MM w m)) (a1 : Int32) (a2 : Int32) (a4 : Int32) (a5 : Int32) (a6 : Int32) (a7 : Int32) (a8 : Int32) (s0 : Int32) (m : rf_m) (hg : g_X14_determinant__258_116 w rec12 rec45 a1 a2 a4 a5 a6 a7 a8 s0 m = some r) : rf_V 10 (rf_sh w) K 0 0 116 ([(0, .ref 206), (1, .int a1), (2, .int a2), (3, .ref 258), (4, .int a4), (5, .int a5), (6, .int a6), (7, .int a7), (8, .int a8)], [.int s0], rf_MM w m) := by
  unfold g_X14_determinant__258_116 at hg
  refine rf_seg C [(.istore 9, 2), (.aload 0, 1), (.invokeinterface 14 80, 3), (.iconst 0, 1), (.aload 0, 1), (.invokeinterface 14 79, 3), (.iconst 6, 2), (.iload 5, 2), (.iconst 1, 1), (.iload 7, 2), (.ishl, 1), (.iconst (-1), 1), (.ixor, 1), (.iand, 1), (.imul, 1), (.iload 9, 2)] (pc' := 141) (S' := ([(9, .int s0), (0, .ref 206), (1, .int a1), (2, .int a2), (3, .ref 258), (4, .int a4), (5, .int a5), (6, .int a6), (7, .int a7), (8, .int a8)], [.int s0, .int (6 * (a5 &&& (((1 : Int32) <<< (a7 &&& 31)) ^^^ ((-1))))), .ref 256, .int 0, .ref 257], rf_MM w m)) (by decide +kernel) rfl trivial ?_
  refine rf_if_eq C 9 150 (by decide +kernel) (fun hc => ?_) (fun hc => ?_)
  · replace hg := (if_pos hc).symm.trans hg
    refine rf_seg C [(.iload 8, 2)] (pc' := 152) (S' := ([(9, .int s0), (0, .ref 206), (1, .int a1), (2, .int a2), (3, .ref 258), (4, .int a4), (5, .int a5), (6, .int a6), (7, .int a7), (8, .int a8)], [.int a8, .int (6 * (a5 &&& (((1 : Int32) <<< (a7 &&& 31)) ^^^ ((-1))))), .ref 256, .int 0, .ref 257], rf_MM w m)) (by decide +kernel) rfl trivial ?_
    refine rf_few [1, 2, 3, 4, 5, 6, 7, 8] rfl ?_
    exact s_X14_determinant__258_152 C hE hr12 hr45 a1 a2 a4 a5 a6 a7 0 (6 * (a5 &&& (((1 : Int32) <<< (a7 &&& 31)) ^^^ ((-1))))) a8 m hg
  · replace hg := (if_neg hc).symm.trans hg
    refine rf_seg C [(.iload 8, 2), (.ineg, 1)] (pc' := 147) (S' := ([(9, .int s0), (0, .ref 206), (1, .int a1), (2, .int a2), (3, .ref 258), (4, .int a4), (5, .int a5), (6, .int a6), (7, .int a7), (8, .int a8)], [.int (-a8), .int (6 * (a5 &&& (((1 : Int32) <<< (a7 &&& 31)) ^^^ ((-1))))), .ref 256, .int 0, .ref 257], rf_MM w m)) (by decide +kernel) rfl trivial ?_
    refine rf_goto C 5 152 (by decide +kernel) ?_
    refine rf_few [1, 2, 3, 4, 5, 6, 7, 8] rfl ?_
    exact s_X14_determinant__258_152 C hE hr12 hr45 a1 a2 a4 a5 a6 a7 0 (6 * (a5 &&& (((1 : Int32) <<< (a7 &&& 31)) ^^^ ((-1))))) (-a8) m hg
theorem s_X14_determinant__258_93 {w : rf_w} {K : rf_K} {r : rf_m} (C : rf_Ctx 14 cX14_determinant 10 3 (rf_sh w) K) (hE : rf_End none K (rf_sh w) 0 0 none (rf_MM w r)) {rec12 : Int32 → Int32 → Int32 → Int32 → rf_m → Option (rf_m)} {rec45 : Int32 → Int32 → Int32 → Int32 → Int32 → Int32 → rf_m → Option (rf_m)} (hr12 : ∀ (a1 : Int32) (a2 : Int32) (a4 : Int32) (a5 : Int32) (m : rf_m), rec12 a1 a2 a4 a5 m = some r → rf_V 10 (rf_sh w) K 0 0 12 ([(0, .ref 206), (1, .int a1), (2, .int a2), (3, .ref 258), (4, .int a4), (5, .int a5)], [], rf_MM w m)) (hr45 : ∀ (a1 : Int32) (a2 : Int32) (a4 : Int32) (a5 : Int32) (a6 : Int32) (a7 : Int32) (m : rf_m), rec45 a1 a2 a4 a5 a6 a7 m = some r → rf_V 10 (rf_sh w) K 0 0 45 ([(0, .ref 206), (1, .int a1), (2, .int a2), (3, .ref 258), (4, .int a4), (5, .int a5), (6, .int a6), (7, .int a7)], [], rf_MM w m)) (a1 : Int32) (a2 : Int32) (a4 : Int32) (a5 : Int32) (a6 : Int32) (a7 : Int32) (s0 : Int32) (m : rf_m) (hg : g_X14_determinant__258_93 w rec12 rec45 a1 a2 a4 a5 a6 a7 s0 m = some r) : rf_V 10 (rf_sh w) K 0 0 93 ([(0, .ref 206), (1, .int a1), (2, .int a2), (3, .ref 258), (4, .int a4), (5, .int a5), (6, .int a6), (7, .int a7)], [.int s0], rf_MM w m) := by
  unfold g_X14_determinant__258_93 at hg
  refine rf_seg C [(.istore 8, 2), (.iload 5, 2), (.iload 7, 2), (.iconst 1, 1), (.iadd, 1), (.ishr, 1)] (pc' := 102) (S' := ([(8, .int s0), (0, .ref 206), (1, .int a1), (2, .int a2), (3, .ref 258), (4, .int a4), (5, .int a5), (6, .int a6), (7, .int a7)], [.int (a5 >>> ((a7 + 1) &&& 31))], rf_MM w m)) (by decide +kernel) rfl trivial ?_
  obtain ⟨y0, m0, hc0, hg⟩ := rf_b_some hg
  refine rf_calls C rf_fit0 j_X14_bits (As := [.int (a5 >>> ((a7 + 1) &&& 31))]) (rest := []) mw_X14_bits (c_X14_bits hc0) (by decide) lk_14_767 rfl rfl (Nat.le_of_ble_eq_true rfl) (by decide +kernel) ?_
  show rf_V 10 (rf_sh w) K 0 0 105 ([(8, .int s0), (0, .ref 206), (1, .int a1), (2, .int a2), (3, .ref 258), (4, .int a4), (5, .int a5), (6, .int a6), (7, .int a7)], [.int y0], rf_MM w m0)
  refine rf_seg C [(.iconst 1, 1), (.iand, 1), (.iconst 1, 1)] (pc' := 108) (S' := ([(8, .int s0), (0, .ref 206), (1, .int a1), (2, .int a2), (3, .ref 258), (4, .int a4), (5, .int a5), (6, .int a6), (7, .int a7)], [.int 1, .int (y0 &&& 1)], rf_MM w m0)) (by decide +kernel) rfl trivial ?_
  refine rf_icmp_ne C 7 115 (by decide +kernel) (fun hc => ?_) (fun hc => ?_)
  · replace hg := (if_neg hc).symm.trans hg
    refine rf_seg C [(.iconst 0, 1)] (pc' := 116) (S' := ([(8, .int s0), (0, .ref 206), (1, .int a1), (2, .int a2), (3, .ref 258), (4, .int a4), (5, .int a5), (6, .int a6), (7, .int a7)], [.int 0], rf_MM w m0)) (by decide +kernel) rfl trivial ?_
    refine rf_few [1, 2, 3, 4, 5, 6, 7, 8, 0] rfl ?_
    exact s_X14_determinant__258_116 C hE hr12 hr45 a1 a2 a4 a5 a6 a7 s0 0 m0 hg
  · replace hg := (if_pos hc).symm.trans hg
    refine rf_seg C [(.iconst 1, 1)] (pc' := 112) (S' := ([(8, .int s0), (0, .ref 206), (1, .int a1), (2, .int a2), (3, .ref 258), (4, .int a4), (5, .int a5), (6, .int a6), (7, .int a7)], [.int 1], rf_MM w m0)) (by decide +kernel) rfl trivial ?_
    refine rf_goto C 4 116 (by decide +kernel) ?_
    refine rf_few [1, 2, 3, 4, 5, 6, 7, 8, 0] rfl ?_
    exact s_X14_determinant__258_116 C hE hr12 hr45 a1 a2 a4 a5 a6 a7 s0 1 m0 hg
theorem s_X14_determinant__258_45_b {w : rf_w} {K : rf_K} {r : rf_m} (C : rf_Ctx 14 cX14_determinant 10 3 (rf_sh w) K) (hE : rf_End none K (rf_sh w) 0 0 none (rf_MM w r)) {rec12 : Int32 → Int32 → Int32 → Int32 → rf_m → Option (rf_m)} {rec45 : Int32 → Int32 → Int32 → Int32 → Int32 → Int32 → rf_m → Option (rf_m)} (hr12 : ∀ (a1 : Int32) (a2 : Int32) (a4 : Int32) (a5 : Int32) (m : rf_m), rec12 a1 a2 a4 a5 m = some r → rf_V 10 (rf_sh w) K 0 0 12 ([(0, .ref 206), (1, .int a1), (2, .int a2), (3, .ref 258), (4, .int a4), (5, .int a5)], [], rf_MM w m)) (hr45 : ∀ (a1 : Int32) (a2 : Int32) (a4 : Int32) (a5 : Int32) (a6 : Int32) (a7 : Int32) (m : rf_m), rec45 a1 a2 a4 a5 a6 a7 m = some r → rf_V 10 (rf_sh w) K 0 0 45 ([(0, .ref 206), (1, .int a1), (2, .int a2), (3, .ref 258), (4, .int a4), (5, .int a5), (6, .int a6), (7, .int a7)], [], rf_MM w m)) (a1 : Int32) (a2 : Int32) (a4 : Int32) (a5 : Int32) (a6 : Int32) (a7 : Int32) (m : rf_m) (hg : g_X14_determinant__258_45_b w rec12 rec45 a1 a2 a4 a5 a6 a7 m = some r) : rf_V 10 (rf_sh w) K 0 0 45 ([(0, .ref 206), (1, .int a1), (2, .int a2), (3, .ref 258), (4, .int a4), (5, .int a5), (6, .int a6), (7, .int a7)], [], rf_MM w m) := by
  unfold g_X14_determinant__258_45_b at hg
  refine rf_seg C [(.iload 7, 2), (.iload 1, 1)] (pc' := 48) (S' := ([(0, .ref 206), (1, .int a1), (2, .int a2), (3, .ref 258), (4, .int a4), (5, .int a5), (6, .int a6), (7, .int a7)], [.int a1, .int a7], rf_MM w m)) (by decide +kernel) rfl trivial ?_
  refine rf_icmp_ge C 130 178 (by decide +kernel) (fun hc => ?_) (fun hc => ?_)
  · replace hg := (if_pos hc).symm.trans hg
    refine rf_seg C [(.iinc 5 1, 3)] (pc' := 181) (S' := ([(5, .int (a5 + 1)), (0, .ref 206), (1, .int a1), (2, .int a2), (3, .ref 258), (4, .int a4), (6, .int a6), (7, .int a7)], [], rf_MM w m)) (by decide +kernel) rfl trivial ?_
    refine rf_goto C (-169) 12 (by decide +kernel) ?_
    refine rf_few [1, 2, 3, 4, 5, 0] rfl ?_
    exact hr12 a1 a2 a4 (a5 + 1) m hg
  · replace hg := (if_neg hc).symm.trans hg
    refine rf_seg C [(.iload 5, 2), (.iload 7, 2), (.ishr, 1), (.iconst 1, 1), (.iand, 1)] (pc' := 58) (S' := ([(0, .ref 206), (1, .int a1), (2, .int a2), (3, .ref 258), (4, .int a4), (5, .int a5), (6, .int a6), (7, .int a7)], [.int ((a5 >>> (a7 &&& 31)) &&& 1)], rf_MM w m)) (by decide +kernel) rfl trivial ?_
    refine rf_if_ne C 6 64 (by decide +kernel) (fun hc => ?_) (fun hc => ?_)
    · replace hg := (if_neg hc).symm.trans hg
      refine rf_seg C [(.iload 7, 2), (.iload 2, 1)] (pc' := 67) (S' := ([(0, .ref 206), (1, .int a1), (2, .int a2), (3, .ref 258), (4, .int a4), (5, .int a5), (6, .int a6), (7, .int a7)], [.int a2, .int a7], rf_MM w m)) (by decide +kernel) rfl trivial ?_
      refine rf_icmp_ne C 13 80 (by decide +kernel) (fun hc => ?_) (fun hc => ?_)
      · replace hg := (if_neg hc).symm.trans hg
        obtain ⟨q0, hg⟩ := rf_g_some hg
        refine rf_seg C [(.aload 0, 1), (.invokeinterface 14 77, 3), (.iconst 6, 2), (.iload 6, 2), (.imul, 1), (.iload 7, 2), (.iadd, 1), (.iaload, 1)] (pc' := 93) (S' := ([(0, .ref 206), (1, .int a1), (2, .int a2), (3, .ref 258), (4, .int a4), (5, .int a5), (6, .int a6), (7, .int a7)], [.int (m.1 254 (Int32.toNatClampNeg ((6 * a6) + a7)))], rf_MM w m)) (by decide +kernel) rfl (rf_in_of q0) ?_
        refine rf_few [0, 1, 2, 3, 4, 5, 6, 7] rfl ?_
        exact s_X14_determinant__258_93 C hE hr12 hr45 a1 a2 a4 a5 a6 a7 (m.1 254 (Int32.toNatClampNeg ((6 * a6) + a7))) m hg
      · replace hg := (if_pos hc).symm.trans hg
        obtain ⟨q1, hg⟩ := rf_g_some hg
        refine rf_seg C [(.aload 0, 1), (.invokeinterface 14 78, 3), (.iload 6, 2), (.iaload, 1)] (pc' := 77) (S' := ([(0, .ref 206), (1, .int a1), (2, .int a2), (3, .ref 258), (4, .int a4), (5, .int a5), (6, .int a6), (7, .int a7)], [.int (m.1 255 (Int32.toNatClampNeg a6))], rf_MM w m)) (by decide +kernel) rfl (rf_in_of q1) ?_
        refine rf_goto C 16 93 (by decide +kernel) ?_
        refine rf_few [0, 1, 2, 3, 4, 5, 6, 7] rfl ?_
        exact s_X14_determinant__258_93 C hE hr12 hr45 a1 a2 a4 a5 a6 a7 (m.1 255 (Int32.toNatClampNeg a6)) m hg
    · replace hg := (if_pos hc).symm.trans hg
      refine rf_goto C 111 172 (by decide +kernel) ?_
      refine rf_few [0, 1, 2, 3, 4, 5, 6, 7] rfl ?_
      exact s_X14_determinant__258_172 C hE hr12 hr45 a1 a2 a4 a5 a6 a7 m hg
theorem s_X14_determinant__258_45 {w : rf_w} {K : rf_K} {r : rf_m} (C : rf_Ctx 14 cX14_determinant 10 3 (rf_sh w) K) (hE : rf_End none K (rf_sh w) 0 0 none (rf_MM w r)) {rec12 : Int32 → Int32 → Int32 → Int32 → rf_m → Option (rf_m)} (hr12 : ∀ (a1 : Int32) (a2 : Int32) (a4 : Int32) (a5 : Int32) (m : rf_m), rec12 a1 a2 a4 a5 m = some r → rf_V 10 (rf_sh w) K 0 0 12 ([(0, .ref 206), (1, .int a1), (2, .int a2), (3, .ref 258), (4, .int a4), (5, .int a5)], [], rf_MM w m)) (n : Nat) : ∀ (a1 : Int32) (a2 : Int32) (a4 : Int32) (a5 : Int32) (a6 : Int32) (a7 : Int32) (m : rf_m), g_X14_determinant__258_45 w rec12 n a1 a2 a4 a5 a6 a7 m = some r → rf_V 10 (rf_sh w) K 0 0 45 ([(0, .ref 206), (1, .int a1), (2, .int a2), (3, .ref 258), (4, .int a4), (5, .int a5), (6, .int a6), (7, .int a7)], [], rf_MM w m) := by
  induction n with
  | zero => intro a1 a2 a4 a5 a6 a7 m hg; cases hg
  | succ n ih => intro a1 a2 a4 a5 a6 a7 m hg; exact s_X14_determinant__258_45_b C hE hr12 ih a1 a2 a4 a5 a6 a7 m hg
theorem s_X14_determinant__258_12_b {w : rf_w} {K : rf_K} {r : rf_m} (C : rf_Ctx 14 cX14_determinant 10 3 (rf_sh w) K) (hE : rf_End none K (rf_sh w) 0 0 none (rf_MM w r)) {rec12 : Int32 → Int32 → Int32 → Int32 → rf_m → Option (rf_m)} (hr12 : ∀ (a1 : Int32) (a2 : Int32) (a4 : Int32) (a5 : Int32) (m : rf_m), rec12 a1 a2 a4 a5 m = some r → rf_V 10 (rf_sh w) K 0 0 12 ([(0, .ref 206), (1, .int a1), (2, .int a2), (3, .ref 258), (4, .int a4), (5, .int a5)], [], rf_MM w m)) (a1 : Int32) (a2 : Int32) (a4 : Int32) (a5 : Int32) (m : rf_m) (hg : g_X14_determinant__258_12_b w rec12 a1 a2 a4 a5 m = some r) : rf_V 10 (rf_sh w) K 0 0 12 ([(0, .ref 206), (1, .int a1), (2, .int a2), (3, .ref 258), (4, .int a4), (5, .int a5)], [], rf_MM w m) := by
  unfold g_X14_determinant__258_12_b at hg
  refine rf_seg C [(.iload 5, 2), (.iconst 1, 1), (.iload 1, 1), (.ishl, 1)] (pc' := 17) (S' := ([(0, .ref 206), (1, .int a1), (2, .int a2), (3, .ref 258), (4, .int a4), (5, .int a5)], [.int ((1 : Int32) <<< (a1 &&& 31)), .int a5], rf_MM w m)) (by decide +kernel) rfl trivial ?_
  refine rf_icmp_ge C 167 184 (by decide +kernel) (fun hc => ?_) (fun hc => ?_)
  · replace hg := (if_pos hc).symm.trans hg
    refine rf_seg C [(.aload 3, 1), (.iload 4, 2), (.aload 0, 1), (.invokeinterface 14 79, 3), (.iconst 6, 2), (.iconst 1, 1), (.iload 1, 1), (.ishl, 1), (.iconst 1, 1), (.isub, 1), (.imul, 1)] (pc' := 199) (S' := ([(0, .ref 206), (1, .int a1), (2, .int a2), (3, .ref 258), (4, .int a4), (5, .int a5)], [.int (6 * (((1 : Int32) <<< (a1 &&& 31)) - 1)), .ref 256, .int a4, .ref 258], rf_MM w m)) (by decide +kernel) rfl trivial ?_
    obtain ⟨m0, hc0, hg⟩ := rf_bv_some hg
    refine rf_calls C rf_fit0 j_X14_copies__258_256 (As := [.ref 258, .int a4, .ref 256, .int (6 * (((1 : Int32) <<< (a1 &&& 31)) - 1))]) (rest := []) mw_X14_copies__258_256 (c_X14_copies__258_256 hc0) (by decide) lk_14_744 rfl rfl (Nat.le_of_ble_eq_true rfl) (by decide +kernel) ?_
    show rf_V 10 (rf_sh w) K 0 0 202 ([(0, .ref 206), (1, .int a1), (2, .int a2), (3, .ref 258), (4, .int a4), (5, .int a5)], [], rf_MM w m0)
    obtain rfl := Option.some.inj hg
    exact rf_vret C hE (by decide +kernel)
  · replace hg := (if_neg hc).symm.trans hg
    refine rf_seg C [(.aload 0, 1), (.invokeinterface 14 79, 3), (.iconst 6, 2), (.iload 5, 2), (.imul, 1), (.goto_w 0, 1)] (pc' := 30) (S' := ([(0, .ref 206), (1, .int a1), (2, .int a2), (3, .ref 258), (4, .int a4), (5, .int a5)], [.long 0, .int (6 * a5), .ref 256], rf_MM w m)) (by decide +kernel) rfl trivial ?_
    obtain ⟨m1, hc1, hg⟩ := rf_bv_some hg
    refine rf_calls C rf_fit0 j_X14_set__256 (As := [.ref 256, .int (6 * a5), .long 0]) (rest := []) mw_X14_set__256 (c_X14_set__256 hc1) (by decide) lk_14_740 rfl rfl (Nat.le_of_ble_eq_true rfl) (by decide +kernel) ?_
    show rf_V 10 (rf_sh w) K 0 0 33 ([(0, .ref 206), (1, .int a1), (2, .int a2), (3, .ref 258), (4, .int a4), (5, .int a5)], [], rf_MM w m1)
    refine rf_seg C [(.iload 5, 2)] (pc' := 35) (S' := ([(0, .ref 206), (1, .int a1), (2, .int a2), (3, .ref 258), (4, .int a4), (5, .int a5)], [.int a5], rf_MM w m1)) (by decide +kernel) rfl trivial ?_
    obtain ⟨y2, m2, hc2, hg⟩ := rf_b_some hg
    refine rf_calls C rf_fit0 j_X14_bits (As := [.int a5]) (rest := []) mw_X14_bits (c_X14_bits hc2) (by decide) lk_14_767 rfl rfl (Nat.le_of_ble_eq_true rfl) (by decide +kernel) ?_
    show rf_V 10 (rf_sh w) K 0 0 38 ([(0, .ref 206), (1, .int a1), (2, .int a2), (3, .ref 258), (4, .int a4), (5, .int a5)], [.int y2], rf_MM w m2)
    refine rf_seg C [(.iconst 1, 1), (.isub, 1), (.istore 6, 2), (.iconst 0, 1), (.istore 7, 2)] (pc' := 45) (S' := ([(7, .int 0), (6, .int (y2 - 1)), (0, .ref 206), (1, .int a1), (2, .int a2), (3, .ref 258), (4, .int a4), (5, .int a5)], [], rf_MM w m2)) (by decide +kernel) rfl trivial ?_
    refine rf_few [2, 3, 4, 5, 6, 7, 1, 0] rfl ?_
    exact s_X14_determinant__258_45 C hE hr12 rf_fuel a1 a2 a4 a5 (y2 - 1) 0 m2 hg
theorem s_X14_determinant__258_12 {w : rf_w} {K : rf_K} {r : rf_m} (C : rf_Ctx 14 cX14_determinant 10 3 (rf_sh w) K) (hE : rf_End none K (rf_sh w) 0 0 none (rf_MM w r)) (n : Nat) : ∀ (a1 : Int32) (a2 : Int32) (a4 : Int32) (a5 : Int32) (m : rf_m), g_X14_determinant__258_12 w n a1 a2 a4 a5 m = some r → rf_V 10 (rf_sh w) K 0 0 12 ([(0, .ref 206), (1, .int a1), (2, .int a2), (3, .ref 258), (4, .int a4), (5, .int a5)], [], rf_MM w m) := by
  induction n with
  | zero => intro a1 a2 a4 a5 m hg; cases hg
  | succ n ih => intro a1 a2 a4 a5 m hg; exact s_X14_determinant__258_12_b C hE ih a1 a2 a4 a5 m hg
theorem c_X14_determinant__258 {w : rf_w} {m : rf_m} {a1 : Int32} {a2 : Int32} {a4 : Int32} {r : rf_m} (hg : g_X14_determinant__258 w m a1 a2 a4 = some r) : rf_Con j_X14_determinant__258 3 (rf_sh w) [.ref 206, .int a1, .int a2, .ref 258, .int a4] (rf_MM w m) none (rf_MM w r) := by
  refine rf_con j_X14_determinant__258 3 ⟨by decide +kernel, rfl, Nat.le_of_ble_eq_true rfl⟩ (fun K C hE => ?_)
  unfold g_X14_determinant__258 at hg
  show rf_V 10 (rf_sh w) K 0 0 0 ([(0, .ref 206), (1, .int a1), (2, .int a2), (3, .ref 258), (4, .int a4)], [], rf_MM w m)
  refine rf_seg C [(.aload 0, 1), (.invokeinterface 14 79, 3), (.iconst 0, 1), (.goto_w 1, 1)] (pc' := 6) (S' := ([(0, .ref 206), (1, .int a1), (2, .int a2), (3, .ref 258), (4, .int a4)], [.long 1, .int 0, .ref 256], rf_MM w m)) (by decide +kernel) rfl trivial ?_
  obtain ⟨m0, hc0, hg⟩ := rf_bv_some hg
  refine rf_calls C rf_fit0 j_X14_set__256 (As := [.ref 256, .int 0, .long 1]) (rest := []) mw_X14_set__256 (c_X14_set__256 hc0) (by decide) lk_14_740 rfl rfl (Nat.le_of_ble_eq_true rfl) (by decide +kernel) ?_
  show rf_V 10 (rf_sh w) K 0 0 9 ([(0, .ref 206), (1, .int a1), (2, .int a2), (3, .ref 258), (4, .int a4)], [], rf_MM w m0)
  refine rf_seg C [(.iconst 1, 1), (.istore 5, 2)] (pc' := 12) (S' := ([(5, .int 1), (0, .ref 206), (1, .int a1), (2, .int a2), (3, .ref 258), (4, .int a4)], [], rf_MM w m0)) (by decide +kernel) rfl trivial ?_
  refine rf_few [1, 2, 3, 4, 5, 0] rfl ?_
  exact s_X14_determinant__258_12 C hE rf_fuel a1 a2 a4 1 m0 hg
-- X14_times__257_258
abbrev j_X14_times__257_258 : rf_J := (14, yX14_times, cX14_times, 10, none)
theorem mw_X14_times__257_258 : rf_ms j_X14_times__257_258 5 := ⟨⟨rf_mem 71 (by decide +kernel), rf_mem 0 (by decide +kernel), rf_mem 71 (by decide +kernel)⟩, by decide +kernel, by decide⟩
def g_X14_times__257_258_14_b (w : rf_w) (rec14 : Int32 → Int32 → Int32 → Int64 → Int64 → Int32 → rf_m → Option (rf_m)) (a1 : Int32) (a3 : Int32) (a4 : Int32) (a5 : Int64) (a7 : Int64) (a9 : Int32) (m : rf_m) : Option (rf_m) := (if 6 ≤ a9 then (if (0 : Int32) ≤ a4 then some m else rf_bv (g_X14_turns__257 w m a1) fun m0 => some m0) else rf_g (rf_in (a3 + a9) 36) (rf_vl (a7 + (((Int32.toInt64 (m.1 258 (Int32.toNatClampNeg (a3 + a9)))) &&& 4294967295) * a5)) fun x2 => rf_g (rf_in (a1 + a9) 6) (rf_vl ((Int64.toUInt64 x2 >>> ((Int32.toInt64 32).toUInt64 &&& Int64.toUInt64 63)).toInt64) fun x4 => rec14 a1 a3 a4 a5 x4 (a9 + 1) (rf_i m 257 (Int32.toNatClampNeg (a1 + a9)) (Int64.toInt32 x2)))))
def g_X14_times__257_258_14 (w : rf_w) : Nat → Int32 → Int32 → Int32 → Int64 → Int64 → Int32 → rf_m → Option (rf_m)
  | 0, _, _, _, _, _, _, _ => none
  | n + 1, a1, a3, a4, a5, a7, a9, m => g_X14_times__257_258_14_b w (g_X14_times__257_258_14 w n) a1 a3 a4 a5 a7 a9 m
def g_X14_times__257_258 (w : rf_w) (m : rf_m) (a1 : Int32) (a3 : Int32) (a4 : Int32) : Option (rf_m) := rf_b (g_absL w m (Int32.toInt64 a4)) fun y0 m0 => g_X14_times__257_258_14 w rf_fuel a1 a3 a4 y0 0 0 m0
theorem s_X14_times__257_258_14_b {w : rf_w} {K : rf_K} {r : rf_m} (C : rf_Ctx 14 cX14_times 10 2 (rf_sh w) K) (hE : rf_End none K (rf_sh w) 0 0 none (rf_MM w r)) {rec14 : Int32 → Int32 → Int32 → Int64 → Int64 → Int32 → rf_m → Option (rf_m)} (hr14 : ∀ (a1 : Int32) (a3 : Int32) (a4 : Int32) (a5 : Int64) (a7 : Int64) (a9 : Int32) (m : rf_m), rec14 a1 a3 a4 a5 a7 a9 m = some r → rf_V 10 (rf_sh w) K 0 0 14 ([(0, .ref 257), (1, .int a1), (2, .ref 258), (3, .int a3), (4, .int a4), (5, .long a5), (7, .long a7), (9, .int a9)], [], rf_MM w m)) (a1 : Int32) (a3 : Int32) (a4 : Int32) (a5 : Int64) (a7 : Int64) (a9 : Int32) (m : rf_m) (hg : g_X14_times__257_258_14_b w rec14 a1 a3 a4 a5 a7 a9 m = some r) : rf_V 10 (rf_sh w) K 0 0 14 ([(0, .ref 257), (1, .int a1), (2, .ref 258), (3, .int a3), (4, .int a4), (5, .long a5), (7, .long a7), (9, .int a9)], [], rf_MM w m) := by
  unfold g_X14_times__257_258_14_b at hg
  refine rf_seg C [(.iload 9, 2), (.iconst 6, 2)] (pc' := 18) (S' := ([(0, .ref 257), (1, .int a1), (2, .ref 258), (3, .int a3), (4, .int a4), (5, .long a5), (7, .long a7), (9, .int a9)], [.int 6, .int a9], rf_MM w m)) (by decide +kernel) rfl trivial ?_
  refine rf_icmp_ge C 44 62 (by decide +kernel) (fun hc => ?_) (fun hc => ?_)
  · replace hg := (if_pos hc).symm.trans hg
    refine rf_seg C [(.iload 4, 2)] (pc' := 64) (S' := ([(0, .ref 257), (1, .int a1), (2, .ref 258), (3, .int a3), (4, .int a4), (5, .long a5), (7, .long a7), (9, .int a9)], [.int a4], rf_MM w m)) (by decide +kernel) rfl trivial ?_
    refine rf_if_ge C 8 72 (by decide +kernel) (fun hc => ?_) (fun hc => ?_)
    · replace hg := (if_pos hc).symm.trans hg
      obtain rfl := Option.some.inj hg
      exact rf_vret C hE (by decide +kernel)
    · replace hg := (if_neg hc).symm.trans hg
      refine rf_seg C [(.aload 0, 1), (.iload 1, 1)] (pc' := 69) (S' := ([(0, .ref 257), (1, .int a1), (2, .ref 258), (3, .int a3), (4, .int a4), (5, .long a5), (7, .long a7), (9, .int a9)], [.int a1, .ref 257], rf_MM w m)) (by decide +kernel) rfl trivial ?_
      obtain ⟨m0, hc0, hg⟩ := rf_bv_some hg
      refine rf_calls C rf_fit0 j_X14_turns__257 (As := [.ref 257, .int a1]) (rest := []) mw_X14_turns__257 (c_X14_turns__257 hc0) (by decide) lk_14_736 rfl rfl (Nat.le_of_ble_eq_true rfl) (by decide +kernel) ?_
      show rf_V 10 (rf_sh w) K 0 0 72 ([(0, .ref 257), (1, .int a1), (2, .ref 258), (3, .int a3), (4, .int a4), (5, .long a5), (7, .long a7), (9, .int a9)], [], rf_MM w m0)
      obtain rfl := Option.some.inj hg
      exact rf_vret C hE (by decide +kernel)
  · replace hg := (if_neg hc).symm.trans hg
    obtain ⟨q1, hg⟩ := rf_g_some hg
    refine rf_seg C [(.lload 7, 2), (.aload 2, 1), (.iload 3, 1), (.iload 9, 2), (.iadd, 1), (.iaload, 1), (.i2l, 1), (.goto_w 4294967295, 3), (.land, 1), (.lload 5, 2), (.lmul, 1), (.ladd, 1)] (pc' := 38) (S' := ([(0, .ref 257), (1, .int a1), (2, .ref 258), (3, .int a3), (4, .int a4), (5, .long a5), (7, .long a7), (9, .int a9)], [.long (a7 + (((Int32.toInt64 (m.1 258 (Int32.toNatClampNeg (a3 + a9)))) &&& 4294967295) * a5))], rf_MM w m)) (by decide +kernel) rfl (rf_in_of q1) ?_
    obtain ⟨x2, hx2, hg⟩ := rf_vl_some hg
    refine rf_vl_top hx2 ?_
    obtain ⟨q3, hg⟩ := rf_g_some hg
    refine rf_seg C [(.lstore 7, 2), (.aload 0, 1), (.iload 1, 1), (.iload 9, 2), (.iadd, 1), (.lload 7, 2), (.l2i, 1), (.iastore, 1), (.lload 7, 2), (.iconst 32, 2), (.lushr, 1)] (pc' := 54) (S' := ([(7, .long x2), (0, .ref 257), (1, .int a1), (2, .ref 258), (3, .int a3), (4, .int a4), (5, .long a5), (9, .int a9)], [.long ((Int64.toUInt64 x2 >>> ((Int32.toInt64 32).toUInt64 &&& Int64.toUInt64 63)).toInt64)], rf_MM w (rf_i m 257 (Int32.toNatClampNeg (a1 + a9)) (Int64.toInt32 x2)))) (by decide +kernel) rfl (rf_in_of q3) ?_
    obtain ⟨x4, hx4, hg⟩ := rf_vl_some hg
    refine rf_vl_top hx4 ?_
    refine rf_seg C [(.lstore 7, 2), (.iinc 9 1, 3)] (pc' := 59) (S' := ([(9, .int (a9 + 1)), (7, .long x4), (0, .ref 257), (1, .int a1), (2, .ref 258), (3, .int a3), (4, .int a4), (5, .long a5)], [], rf_MM w (rf_i m 257 (Int32.toNatClampNeg (a1 + a9)) (Int64.toInt32 x2)))) (by decide +kernel) rfl trivial ?_
    refine rf_goto C (-45) 14 (by decide +kernel) ?_
    refine rf_few [2, 3, 4, 5, 6, 7, 1, 0] rfl ?_
    exact hr14 a1 a3 a4 a5 x4 (a9 + 1) (rf_i m 257 (Int32.toNatClampNeg (a1 + a9)) (Int64.toInt32 x2)) hg
theorem s_X14_times__257_258_14 {w : rf_w} {K : rf_K} {r : rf_m} (C : rf_Ctx 14 cX14_times 10 2 (rf_sh w) K) (hE : rf_End none K (rf_sh w) 0 0 none (rf_MM w r)) (n : Nat) : ∀ (a1 : Int32) (a3 : Int32) (a4 : Int32) (a5 : Int64) (a7 : Int64) (a9 : Int32) (m : rf_m), g_X14_times__257_258_14 w n a1 a3 a4 a5 a7 a9 m = some r → rf_V 10 (rf_sh w) K 0 0 14 ([(0, .ref 257), (1, .int a1), (2, .ref 258), (3, .int a3), (4, .int a4), (5, .long a5), (7, .long a7), (9, .int a9)], [], rf_MM w m) := by
  induction n with
  | zero => intro a1 a3 a4 a5 a7 a9 m hg; cases hg
  | succ n ih => intro a1 a3 a4 a5 a7 a9 m hg; exact s_X14_times__257_258_14_b C hE ih a1 a3 a4 a5 a7 a9 m hg
theorem c_X14_times__257_258 {w : rf_w} {m : rf_m} {a1 : Int32} {a3 : Int32} {a4 : Int32} {r : rf_m} (hg : g_X14_times__257_258 w m a1 a3 a4 = some r) : rf_Con j_X14_times__257_258 2 (rf_sh w) [.ref 257, .int a1, .ref 258, .int a3, .int a4] (rf_MM w m) none (rf_MM w r) := by
  refine rf_con j_X14_times__257_258 2 ⟨by decide +kernel, rfl, Nat.le_of_ble_eq_true rfl⟩ (fun K C hE => ?_)
  unfold g_X14_times__257_258 at hg
  show rf_V 10 (rf_sh w) K 0 0 0 ([(0, .ref 257), (1, .int a1), (2, .ref 258), (3, .int a3), (4, .int a4)], [], rf_MM w m)
  refine rf_seg C [(.iload 4, 2), (.i2l, 1)] (pc' := 3) (S' := ([(0, .ref 257), (1, .int a1), (2, .ref 258), (3, .int a3), (4, .int a4)], [.long (Int32.toInt64 a4)], rf_MM w m)) (by decide +kernel) rfl trivial ?_
  obtain ⟨y0, m0, hc0, hg⟩ := rf_b_some hg
  refine rf_calls C rf_fit0 j_absL (As := [.long (Int32.toInt64 a4)]) (rest := []) mw_absL (c_absL hc0) (by decide) lk_14_733 rfl rfl (Nat.le_of_ble_eq_true rfl) (by decide +kernel) ?_
  show rf_V 10 (rf_sh w) K 0 0 6 ([(0, .ref 257), (1, .int a1), (2, .ref 258), (3, .int a3), (4, .int a4)], [.long y0], rf_MM w m0)
  refine rf_seg C [(.lstore 5, 2), (.goto_w 0, 1), (.lstore 7, 2), (.iconst 0, 1), (.istore 9, 2)] (pc' := 14) (S' := ([(9, .int 0), (7, .long 0), (5, .long y0), (0, .ref 257), (1, .int a1), (2, .ref 258), (3, .int a3), (4, .int a4)], [], rf_MM w m0)) (by decide +kernel) rfl trivial ?_
  refine rf_few [3, 4, 5, 6, 7, 2, 1, 0] rfl ?_
  exact s_X14_times__257_258_14 C hE rf_fuel a1 a3 a4 y0 0 0 m0 hg
-- X14_adds__252_257
abbrev j_X14_adds__252_257 : rf_J := (14, yX14_adds, cX14_adds, 7, none)
theorem mw_X14_adds__252_257 : rf_ms j_X14_adds__252_257 4 := ⟨⟨rf_mem 71 (by decide +kernel), rf_mem 0 (by decide +kernel), rf_mem 71 (by decide +kernel)⟩, by decide +kernel, by decide⟩
def g_X14_adds__252_257_6_b (w : rf_w) (rec6 : Int32 → Int32 → Int64 → Int32 → rf_m → Option (rf_m)) (a1 : Int32) (a3 : Int32) (a4 : Int64) (a6 : Int32) (m : rf_m) : Option (rf_m) := (if 6 ≤ a6 then some m else rf_g (rf_in (a1 + a6) 6) (rf_g (rf_in (a3 + a6) 6) (rf_vl (a4 + (((Int32.toInt64 (m.1 252 (Int32.toNatClampNeg (a1 + a6)))) &&& 4294967295) + ((Int32.toInt64 (m.1 257 (Int32.toNatClampNeg (a3 + a6)))) &&& 4294967295))) fun x2 => rf_g (rf_in (a1 + a6) 6) (rf_vl ((Int64.toUInt64 x2 >>> ((Int32.toInt64 32).toUInt64 &&& Int64.toUInt64 63)).toInt64) fun x4 => rec6 a1 a3 x4 (a6 + 1) (rf_i m 252 (Int32.toNatClampNeg (a1 + a6)) (Int64.toInt32 x2))))))
def g_X14_adds__252_257_6 (w : rf_w) : Nat → Int32 → Int32 → Int64 → Int32 → rf_m → Option (rf_m)
  | 0, _, _, _, _, _ => none
  | n + 1, a1, a3, a4, a6, m => g_X14_adds__252_257_6_b w (g_X14_adds__252_257_6 w n) a1 a3 a4 a6 m
def g_X14_adds__252_257 (w : rf_w) (m : rf_m) (a1 : Int32) (a3 : Int32) : Option (rf_m) := g_X14_adds__252_257_6 w rf_fuel a1 a3 0 0 m
theorem s_X14_adds__252_257_6_b {w : rf_w} {K : rf_K} {r : rf_m} (C : rf_Ctx 14 cX14_adds 7 1 (rf_sh w) K) (hE : rf_End none K (rf_sh w) 0 0 none (rf_MM w r)) {rec6 : Int32 → Int32 → Int64 → Int32 → rf_m → Option (rf_m)} (hr6 : ∀ (a1 : Int32) (a3 : Int32) (a4 : Int64) (a6 : Int32) (m : rf_m), rec6 a1 a3 a4 a6 m = some r → rf_V 7 (rf_sh w) K 0 0 6 ([(0, .ref 252), (1, .int a1), (2, .ref 257), (3, .int a3), (4, .long a4), (6, .int a6)], [], rf_MM w m)) (a1 : Int32) (a3 : Int32) (a4 : Int64) (a6 : Int32) (m : rf_m) (hg : g_X14_adds__252_257_6_b w rec6 a1 a3 a4 a6 m = some r) : rf_V 7 (rf_sh w) K 0 0 6 ([(0, .ref 252), (1, .int a1), (2, .ref 257), (3, .int a3), (4, .long a4), (6, .int a6)], [], rf_MM w m) := by
  unfold g_X14_adds__252_257_6_b at hg
  refine rf_seg C [(.iload 6, 2), (.iconst 6, 2)] (pc' := 10) (S' := ([(0, .ref 252), (1, .int a1), (2, .ref 257), (3, .int a3), (4, .long a4), (6, .int a6)], [.int 6, .int a6], rf_MM w m)) (by decide +kernel) rfl trivial ?_
  refine rf_icmp_ge C 53 63 (by decide +kernel) (fun hc => ?_) (fun hc => ?_)
  · replace hg := (if_pos hc).symm.trans hg
    obtain rfl := Option.some.inj hg
    exact rf_vret C hE (by decide +kernel)
  · replace hg := (if_neg hc).symm.trans hg
    obtain ⟨q0, hg⟩ := rf_g_some hg
    obtain ⟨q1, hg⟩ := rf_g_some hg
    refine rf_seg C [(.lload 4, 2), (.aload 0, 1), (.iload 1, 1), (.iload 6, 2), (.iadd, 1), (.iaload, 1), (.i2l, 1), (.goto_w 4294967295, 3), (.land, 1), (.aload 2, 1), (.iload 3, 1), (.iload 6, 2), (.iadd, 1), (.iaload, 1), (.i2l, 1), (.goto_w 4294967295, 3), (.land, 1), (.ladd, 1), (.ladd, 1)] (pc' := 39) (S' := ([(0, .ref 252), (1, .int a1), (2, .ref 257), (3, .int a3), (4, .long a4), (6, .int a6)], [.long (a4 + (((Int32.toInt64 (m.1 252 (Int32.toNatClampNeg (a1 + a6)))) &&& 4294967295) + ((Int32.toInt64 (m.1 257 (Int32.toNatClampNeg (a3 + a6)))) &&& 4294967295)))], rf_MM w m)) (by decide +kernel) rfl (by exact ⟨(rf_in_of q0), (rf_in_of q1)⟩) ?_
    obtain ⟨x2, hx2, hg⟩ := rf_vl_some hg
    refine rf_vl_top hx2 ?_
    obtain ⟨q3, hg⟩ := rf_g_some hg
    refine rf_seg C [(.lstore 4, 2), (.aload 0, 1), (.iload 1, 1), (.iload 6, 2), (.iadd, 1), (.lload 4, 2), (.l2i, 1), (.iastore, 1), (.lload 4, 2), (.iconst 32, 2), (.lushr, 1)] (pc' := 55) (S' := ([(4, .long x2), (0, .ref 252), (1, .int a1), (2, .ref 257), (3, .int a3), (6, .int a6)], [.long ((Int64.toUInt64 x2 >>> ((Int32.toInt64 32).toUInt64 &&& Int64.toUInt64 63)).toInt64)], rf_MM w (rf_i m 252 (Int32.toNatClampNeg (a1 + a6)) (Int64.toInt32 x2)))) (by decide +kernel) rfl (rf_in_of q3) ?_
    obtain ⟨x4, hx4, hg⟩ := rf_vl_some hg
    refine rf_vl_top hx4 ?_
    refine rf_seg C [(.lstore 4, 2), (.iinc 6 1, 3)] (pc' := 60) (S' := ([(6, .int (a6 + 1)), (4, .long x4), (0, .ref 252), (1, .int a1), (2, .ref 257), (3, .int a3)], [], rf_MM w (rf_i m 252 (Int32.toNatClampNeg (a1 + a6)) (Int64.toInt32 x2)))) (by decide +kernel) rfl trivial ?_
    refine rf_goto C (-54) 6 (by decide +kernel) ?_
    refine rf_few [2, 3, 4, 5, 1, 0] rfl ?_
    exact hr6 a1 a3 x4 (a6 + 1) (rf_i m 252 (Int32.toNatClampNeg (a1 + a6)) (Int64.toInt32 x2)) hg
theorem s_X14_adds__252_257_6 {w : rf_w} {K : rf_K} {r : rf_m} (C : rf_Ctx 14 cX14_adds 7 1 (rf_sh w) K) (hE : rf_End none K (rf_sh w) 0 0 none (rf_MM w r)) (n : Nat) : ∀ (a1 : Int32) (a3 : Int32) (a4 : Int64) (a6 : Int32) (m : rf_m), g_X14_adds__252_257_6 w n a1 a3 a4 a6 m = some r → rf_V 7 (rf_sh w) K 0 0 6 ([(0, .ref 252), (1, .int a1), (2, .ref 257), (3, .int a3), (4, .long a4), (6, .int a6)], [], rf_MM w m) := by
  induction n with
  | zero => intro a1 a3 a4 a6 m hg; cases hg
  | succ n ih => intro a1 a3 a4 a6 m hg; exact s_X14_adds__252_257_6_b C hE ih a1 a3 a4 a6 m hg
theorem c_X14_adds__252_257 {w : rf_w} {m : rf_m} {a1 : Int32} {a3 : Int32} {r : rf_m} (hg : g_X14_adds__252_257 w m a1 a3 = some r) : rf_Con j_X14_adds__252_257 1 (rf_sh w) [.ref 252, .int a1, .ref 257, .int a3] (rf_MM w m) none (rf_MM w r) := by
  refine rf_con j_X14_adds__252_257 1 ⟨by decide +kernel, rfl, Nat.le_of_ble_eq_true rfl⟩ (fun K C hE => ?_)
  unfold g_X14_adds__252_257 at hg
  show rf_V 7 (rf_sh w) K 0 0 0 ([(0, .ref 252), (1, .int a1), (2, .ref 257), (3, .int a3)], [], rf_MM w m)
  refine rf_seg C [(.goto_w 0, 1), (.lstore 4, 2), (.iconst 0, 1), (.istore 6, 2)] (pc' := 6) (S' := ([(6, .int 0), (4, .long 0), (0, .ref 252), (1, .int a1), (2, .ref 257), (3, .int a3)], [], rf_MM w m)) (by decide +kernel) rfl trivial ?_
  refine rf_few [2, 3, 4, 5, 1, 0] rfl ?_
  exact s_X14_adds__252_257_6 C hE rf_fuel a1 a3 0 0 m hg
-- X14_copies__260_256
abbrev j_X14_copies__260_256 : rf_J := (14, yX14_copies, cX14_copies, 5, none)
theorem mw_X14_copies__260_256 : rf_ms j_X14_copies__260_256 4 := ⟨⟨rf_mem 71 (by decide +kernel), rf_mem 0 (by decide +kernel), rf_mem 71 (by decide +kernel)⟩, by decide +kernel, by decide⟩
def g_X14_copies__260_256_3_b (w : rf_w) (rec3 : Int32 → Int32 → Int32 → rf_m → Option (rf_m)) (a1 : Int32) (a3 : Int32) (a4 : Int32) (m : rf_m) : Option (rf_m) := (if 6 ≤ a4 then some m else rf_g (rf_in (a3 + a4) 384) (rf_g (rf_in (a1 + a4) 6) (rec3 a1 a3 (a4 + 1) (rf_i m 260 (Int32.toNatClampNeg (a1 + a4)) (m.1 256 (Int32.toNatClampNeg (a3 + a4)))))))
def g_X14_copies__260_256_3 (w : rf_w) : Nat → Int32 → Int32 → Int32 → rf_m → Option (rf_m)
  | 0, _, _, _, _ => none
  | n + 1, a1, a3, a4, m => g_X14_copies__260_256_3_b w (g_X14_copies__260_256_3 w n) a1 a3 a4 m
def g_X14_copies__260_256 (w : rf_w) (m : rf_m) (a1 : Int32) (a3 : Int32) : Option (rf_m) := g_X14_copies__260_256_3 w rf_fuel a1 a3 0 m
theorem s_X14_copies__260_256_3_b {w : rf_w} {K : rf_K} {r : rf_m} (C : rf_Ctx 14 cX14_copies 5 1 (rf_sh w) K) (hE : rf_End none K (rf_sh w) 0 0 none (rf_MM w r)) {rec3 : Int32 → Int32 → Int32 → rf_m → Option (rf_m)} (hr3 : ∀ (a1 : Int32) (a3 : Int32) (a4 : Int32) (m : rf_m), rec3 a1 a3 a4 m = some r → rf_V 5 (rf_sh w) K 0 0 3 ([(0, .ref 260), (1, .int a1), (2, .ref 256), (3, .int a3), (4, .int a4)], [], rf_MM w m)) (a1 : Int32) (a3 : Int32) (a4 : Int32) (m : rf_m) (hg : g_X14_copies__260_256_3_b w rec3 a1 a3 a4 m = some r) : rf_V 5 (rf_sh w) K 0 0 3 ([(0, .ref 260), (1, .int a1), (2, .ref 256), (3, .int a3), (4, .int a4)], [], rf_MM w m) := by
  unfold g_X14_copies__260_256_3_b at hg
  refine rf_seg C [(.iload 4, 2), (.iconst 6, 2)] (pc' := 7) (S' := ([(0, .ref 260), (1, .int a1), (2, .ref 256), (3, .int a3), (4, .int a4)], [.int 6, .int a4], rf_MM w m)) (by decide +kernel) rfl trivial ?_
  refine rf_icmp_ge C 21 28 (by decide +kernel) (fun hc => ?_) (fun hc => ?_)
  · replace hg := (if_pos hc).symm.trans hg
    obtain rfl := Option.some.inj hg
    exact rf_vret C hE (by decide +kernel)
  · replace hg := (if_neg hc).symm.trans hg
    obtain ⟨q0, hg⟩ := rf_g_some hg
    obtain ⟨q1, hg⟩ := rf_g_some hg
    refine rf_seg C [(.aload 0, 1), (.iload 1, 1), (.iload 4, 2), (.iadd, 1), (.aload 2, 1), (.iload 3, 1), (.iload 4, 2), (.iadd, 1), (.iaload, 1), (.iastore, 1), (.iinc 4 1, 3)] (pc' := 25) (S' := ([(4, .int (a4 + 1)), (0, .ref 260), (1, .int a1), (2, .ref 256), (3, .int a3)], [], rf_MM w (rf_i m 260 (Int32.toNatClampNeg (a1 + a4)) (m.1 256 (Int32.toNatClampNeg (a3 + a4)))))) (by decide +kernel) rfl (by exact ⟨(rf_in_of q0), (rf_in_of q1)⟩) ?_
    refine rf_goto C (-22) 3 (by decide +kernel) ?_
    refine rf_few [1, 2, 3, 4, 0] rfl ?_
    exact hr3 a1 a3 (a4 + 1) (rf_i m 260 (Int32.toNatClampNeg (a1 + a4)) (m.1 256 (Int32.toNatClampNeg (a3 + a4)))) hg
theorem s_X14_copies__260_256_3 {w : rf_w} {K : rf_K} {r : rf_m} (C : rf_Ctx 14 cX14_copies 5 1 (rf_sh w) K) (hE : rf_End none K (rf_sh w) 0 0 none (rf_MM w r)) (n : Nat) : ∀ (a1 : Int32) (a3 : Int32) (a4 : Int32) (m : rf_m), g_X14_copies__260_256_3 w n a1 a3 a4 m = some r → rf_V 5 (rf_sh w) K 0 0 3 ([(0, .ref 260), (1, .int a1), (2, .ref 256), (3, .int a3), (4, .int a4)], [], rf_MM w m) := by
  induction n with
  | zero => intro a1 a3 a4 m hg; cases hg
  | succ n ih => intro a1 a3 a4 m hg; exact s_X14_copies__260_256_3_b C hE ih a1 a3 a4 m hg
theorem c_X14_copies__260_256 {w : rf_w} {m : rf_m} {a1 : Int32} {a3 : Int32} {r : rf_m} (hg : g_X14_copies__260_256 w m a1 a3 = some r) : rf_Con j_X14_copies__260_256 1 (rf_sh w) [.ref 260, .int a1, .ref 256, .int a3] (rf_MM w m) none (rf_MM w r) := by
  refine rf_con j_X14_copies__260_256 1 ⟨by decide +kernel, rfl, Nat.le_of_ble_eq_true rfl⟩ (fun K C hE => ?_)
  unfold g_X14_copies__260_256 at hg
  show rf_V 5 (rf_sh w) K 0 0 0 ([(0, .ref 260), (1, .int a1), (2, .ref 256), (3, .int a3)], [], rf_MM w m)
  refine rf_seg C [(.iconst 0, 1), (.istore 4, 2)] (pc' := 3) (S' := ([(4, .int 0), (0, .ref 260), (1, .int a1), (2, .ref 256), (3, .int a3)], [], rf_MM w m)) (by decide +kernel) rfl trivial ?_
  refine rf_few [1, 2, 3, 4, 0] rfl ?_
  exact s_X14_copies__260_256_3 C hE rf_fuel a1 a3 0 m hg
