/-! methods as functions, and their contracts (written by wip/tool/gen.py) -/
-- X14_times__257_256
abbrev j_X14_times__257_256 : rf_J := (14, yX14_times, cX14_times, 10, none)
theorem mw_X14_times__257_256 : rf_ms j_X14_times__257_256 5 := ⟨⟨rf_mem 71 (by decide +kernel), rf_mem 0 (by decide +kernel), rf_mem 71 (by decide +kernel)⟩, by decide +kernel, by decide⟩
def g_X14_times__257_256_14_b (w : rf_w) (rec14 : Int32 → Int32 → Int32 → Int64 → Int64 → Int32 → rf_m → Option (rf_m)) (a1 : Int32) (a3 : Int32) (a4 : Int32) (a5 : Int64) (a7 : Int64) (a9 : Int32) (m : rf_m) : Option (rf_m) := (if 6 ≤ a9 then (if (0 : Int32) ≤ a4 then some m else rf_bv (g_X14_turns__257 w m a1) fun m0 => some m0) else rf_g (rf_in (a3 + a9) 384) (rf_vl (a7 + (((Int32.toInt64 (m.1 256 (Int32.toNatClampNeg (a3 + a9)))) &&& 4294967295) * a5)) fun x2 => rf_g (rf_in (a1 + a9) 6) (rf_vl ((Int64.toUInt64 x2 >>> ((Int32.toInt64 32).toUInt64 &&& Int64.toUInt64 63)).toInt64) fun x4 => rec14 a1 a3 a4 a5 x4 (a9 + 1) (rf_i m 257 (Int32.toNatClampNeg (a1 + a9)) (Int64.toInt32 x2)))))
def g_X14_times__257_256_14 (w : rf_w) : Nat → Int32 → Int32 → Int32 → Int64 → Int64 → Int32 → rf_m → Option (rf_m)
  | 0, _, _, _, _, _, _, _ => none
  | n + 1, a1, a3, a4, a5, a7, a9, m => g_X14_times__257_256_14_b w (g_X14_times__257_256_14 w n) a1 a3 a4 a5 a7 a9 m
def g_X14_times__257_256 (w : rf_w) (m : rf_m) (a1 : Int32) (a3 : Int32) (a4 : Int32) : Option (rf_m) := rf_b (g_absL w m (Int32.toInt64 a4)) fun y0 m0 => g_X14_times__257_256_14 w rf_fuel a1 a3 a4 y0 0 0 m0
theorem s_X14_times__257_256_14_b {w : rf_w} {K : rf_K} {r : rf_m} (C : rf_Ctx 14 cX14_times 10 2 (rf_sh w) K) (hE : rf_End none K (rf_sh w) 0 0 none (rf_MM w r)) {rec14 : Int32 → Int32 → Int32 → Int64 → Int64 → Int32 → rf_m → Option (rf_m)} (hr14 : ∀ (a1 : Int32) (a3 : Int32) (a4 : Int32) (a5 : Int64) (a7 : Int64) (a9 : Int32) (m : rf_m), rec14 a1 a3 a4 a5 a7 a9 m = some r → rf_V 10 (rf_sh w) K 0 0 14 ([(0, .ref 257), (1, .int a1), (2, .ref 256), (3, .int a3), (4, .int a4), (5, .long a5), (7, .long a7), (9, .int a9)], [], rf_MM w m)) (a1 : Int32) (a3 : Int32) (a4 : Int32) (a5 : Int64) (a7 : Int64) (a9 : Int32) (m : rf_m) (hg : g_X14_times__257_256_14_b w rec14 a1 a3 a4 a5 a7 a9 m = some r) : rf_V 10 (rf_sh w) K 0 0 14 ([(0, .ref 257), (1, .int a1), (2, .ref 256), (3, .int a3), (4, .int a4), (5, .long a5), (7, .long a7), (9, .int a9)], [], rf_MM w m) := by
  unfold g_X14_times__257_256_14_b at hg
  refine rf_seg C [(.iload 9, 2), (.iconst 6, 2)] (pc' := 18) (S' := ([(0, .ref 257), (1, .int a1), (2, .ref 256), (3, .int a3), (4, .int a4), (5, .long a5), (7, .long a7), (9, .int a9)], [.int 6, .int a9], rf_MM w m)) (by decide +kernel) rfl trivial ?_
  refine rf_icmp_ge C 44 62 (by decide +kernel) (fun hc => ?_) (fun hc => ?_)
  · replace hg := (if_pos hc).symm.trans hg
    refine rf_seg C [(.iload 4, 2)] (pc' := 64) (S' := ([(0, .ref 257), (1, .int a1), (2, .ref 256), (3, .int a3), (4, .int a4), (5, .long a5), (7, .long a7), (9, .int a9)], [.int a4], rf_MM w m)) (by decide +kernel) rfl trivial ?_
    refine rf_if_ge C 8 72 (by decide +kernel) (fun hc => ?_) (fun hc => ?_)
    · replace hg := (if_pos hc).symm.trans hg
      obtain rfl := Option.some.inj hg
      exact rf_vret C hE (by decide +kernel)
    · replace hg := (if_neg hc).symm.trans hg
      refine rf_seg C [(.aload 0, 1), (.iload 1, 1)] (pc' := 69) (S' := ([(0, .ref 257), (1, .int a1), (2, .ref 256), (3, .int a3), (4, .int a4), (5, .long a5), (7, .long a7), (9, .int a9)], [.int a1, .ref 257], rf_MM w m)) (by decide +kernel) rfl trivial ?_
      obtain ⟨m0, hc0, hg⟩ := rf_bv_some hg
      refine rf_calls C rf_fit0 j_X14_turns__257 (As := [.ref 257, .int a1]) (rest := []) mw_X14_turns__257 (c_X14_turns__257 hc0) (by decide) lk_14_736 rfl rfl (Nat.le_of_ble_eq_true rfl) (by decide +kernel) ?_
      show rf_V 10 (rf_sh w) K 0 0 72 ([(0, .ref 257), (1, .int a1), (2, .ref 256), (3, .int a3), (4, .int a4), (5, .long a5), (7, .long a7), (9, .int a9)], [], rf_MM w m0)
      obtain rfl := Option.some.inj hg
      exact rf_vret C hE (by decide +kernel)
  · replace hg := (if_neg hc).symm.trans hg
    obtain ⟨q1, hg⟩ := rf_g_some hg
    refine rf_seg C [(.lload 7, 2), (.aload 2, 1), (.iload 3, 1), (.iload 9, 2), (.iadd, 1), (.iaload, 1), (.i2l, 1), (.goto_w 4294967295, 3), (.land, 1), (.lload 5, 2), (.lmul, 1), (.ladd, 1)] (pc' := 38) (S' := ([(0, .ref 257), (1, .int a1), (2, .ref 256), (3, .int a3), (4, .int a4), (5, .long a5), (7, .long a7), (9, .int a9)], [.long (a7 + (((Int32.toInt64 (m.1 256 (Int32.toNatClampNeg (a3 + a9)))) &&& 4294967295) * a5))], rf_MM w m)) (by decide +kernel) rfl (rf_in_of q1) ?_
    obtain ⟨x2, hx2, hg⟩ := rf_vl_some hg
    refine rf_vl_top hx2 ?_
    obtain ⟨q3, hg⟩ := rf_g_some hg
    refine rf_seg C [(.lstore 7, 2), (.aload 0, 1), (.iload 1, 1), (.iload 9, 2), (.iadd, 1), (.lload 7, 2), (.l2i, 1), (.iastore, 1), (.lload 7, 2), (.iconst 32, 2), (.lushr, 1)] (pc' := 54) (S' := ([(7, .long x2), (0, .ref 257), (1, .int a1), (2, .ref 256), (3, .int a3), (4, .int a4), (5, .long a5), (9, .int a9)], [.long ((Int64.toUInt64 x2 >>> ((Int32.toInt64 32).toUInt64 &&& Int64.toUInt64 63)).toInt64)], rf_MM w (rf_i m 257 (Int32.toNatClampNeg (a1 + a9)) (Int64.toInt32 x2)))) (by decide +kernel) rfl (rf_in_of q3) ?_
    obtain ⟨x4, hx4, hg⟩ := rf_vl_some hg
    refine rf_vl_top hx4 ?_
    refine rf_seg C [(.lstore 7, 2), (.iinc 9 1, 3)] (pc' := 59) (S' := ([(9, .int (a9 + 1)), (7, .long x4), (0, .ref 257), (1, .int a1), (2, .ref 256), (3, .int a3), (4, .int a4), (5, .long a5)], [], rf_MM w (rf_i m 257 (Int32.toNatClampNeg (a1 + a9)) (Int64.toInt32 x2)))) (by decide +kernel) rfl trivial ?_
    refine rf_goto C (-45) 14 (by decide +kernel) ?_
    refine rf_few [2, 3, 4, 5, 6, 7, 1, 0] rfl ?_
    exact hr14 a1 a3 a4 a5 x4 (a9 + 1) (rf_i m 257 (Int32.toNatClampNeg (a1 + a9)) (Int64.toInt32 x2)) hg
theorem s_X14_times__257_256_14 {w : rf_w} {K : rf_K} {r : rf_m} (C : rf_Ctx 14 cX14_times 10 2 (rf_sh w) K) (hE : rf_End none K (rf_sh w) 0 0 none (rf_MM w r)) (n : Nat) : ∀ (a1 : Int32) (a3 : Int32) (a4 : Int32) (a5 : Int64) (a7 : Int64) (a9 : Int32) (m : rf_m), g_X14_times__257_256_14 w n a1 a3 a4 a5 a7 a9 m = some r → rf_V 10 (rf_sh w) K 0 0 14 ([(0, .ref 257), (1, .int a1), (2, .ref 256), (3, .int a3), (4, .int a4), (5, .long a5), (7, .long a7), (9, .int a9)], [], rf_MM w m) := by
  induction n with
  | zero => intro a1 a3 a4 a5 a7 a9 m hg; cases hg
  | succ n ih => intro a1 a3 a4 a5 a7 a9 m hg; exact s_X14_times__257_256_14_b C hE ih a1 a3 a4 a5 a7 a9 m hg
theorem c_X14_times__257_256 {w : rf_w} {m : rf_m} {a1 : Int32} {a3 : Int32} {a4 : Int32} {r : rf_m} (hg : g_X14_times__257_256 w m a1 a3 a4 = some r) : rf_Con j_X14_times__257_256 2 (rf_sh w) [.ref 257, .int a1, .ref 256, .int a3, .int a4] (rf_MM w m) none (rf_MM w r) := by
  refine rf_con j_X14_times__257_256 2 ⟨by decide +kernel, rfl, Nat.le_of_ble_eq_true rfl⟩ (fun K C hE => ?_)
  unfold g_X14_times__257_256 at hg
  show rf_V 10 (rf_sh w) K 0 0 0 ([(0, .ref 257), (1, .int a1), (2, .ref 256), (3, .int a3), (4, .int a4)], [], rf_MM w m)
  refine rf_seg C [(.iload 4, 2), (.i2l, 1)] (pc' := 3) (S' := ([(0, .ref 257), (1, .int a1), (2, .ref 256), (3, .int a3), (4, .int a4)], [.long (Int32.toInt64 a4)], rf_MM w m)) (by decide +kernel) rfl trivial ?_
  obtain ⟨y0, m0, hc0, hg⟩ := rf_b_some hg
  refine rf_calls C rf_fit0 j_absL (As := [.long (Int32.toInt64 a4)]) (rest := []) mw_absL (c_absL hc0) (by decide) lk_14_733 rfl rfl (Nat.le_of_ble_eq_true rfl) (by decide +kernel) ?_
  show rf_V 10 (rf_sh w) K 0 0 6 ([(0, .ref 257), (1, .int a1), (2, .ref 256), (3, .int a3), (4, .int a4)], [.long y0], rf_MM w m0)
  refine rf_seg C [(.lstore 5, 2), (.goto_w 0, 1), (.lstore 7, 2), (.iconst 0, 1), (.istore 9, 2)] (pc' := 14) (S' := ([(9, .int 0), (7, .long 0), (5, .long y0), (0, .ref 257), (1, .int a1), (2, .ref 256), (3, .int a3), (4, .int a4)], [], rf_MM w m0)) (by decide +kernel) rfl trivial ?_
  refine rf_few [3, 4, 5, 6, 7, 2, 1, 0] rfl ?_
  exact s_X14_times__257_256_14 C hE rf_fuel a1 a3 a4 y0 0 0 m0 hg
-- X14_adds__256_257
abbrev j_X14_adds__256_257 : rf_J := (14, yX14_adds, cX14_adds, 7, none)
theorem mw_X14_adds__256_257 : rf_ms j_X14_adds__256_257 4 := ⟨⟨rf_mem 71 (by decide +kernel), rf_mem 0 (by decide +kernel), rf_mem 71 (by decide +kernel)⟩, by decide +kernel, by decide⟩
def g_X14_adds__256_257_6_b (w : rf_w) (rec6 : Int32 → Int32 → Int64 → Int32 → rf_m → Option (rf_m)) (a1 : Int32) (a3 : Int32) (a4 : Int64) (a6 : Int32) (m : rf_m) : Option (rf_m) := (if 6 ≤ a6 then some m else rf_g (rf_in (a1 + a6) 384) (rf_g (rf_in (a3 + a6) 6) (rf_vl (a4 + (((Int32.toInt64 (m.1 256 (Int32.toNatClampNeg (a1 + a6)))) &&& 4294967295) + ((Int32.toInt64 (m.1 257 (Int32.toNatClampNeg (a3 + a6)))) &&& 4294967295))) fun x2 => rf_g (rf_in (a1 + a6) 384) (rf_vl ((Int64.toUInt64 x2 >>> ((Int32.toInt64 32).toUInt64 &&& Int64.toUInt64 63)).toInt64) fun x4 => rec6 a1 a3 x4 (a6 + 1) (rf_i m 256 (Int32.toNatClampNeg (a1 + a6)) (Int64.toInt32 x2))))))
def g_X14_adds__256_257_6 (w : rf_w) : Nat → Int32 → Int32 → Int64 → Int32 → rf_m → Option (rf_m)
  | 0, _, _, _, _, _ => none
  | n + 1, a1, a3, a4, a6, m => g_X14_adds__256_257_6_b w (g_X14_adds__256_257_6 w n) a1 a3 a4 a6 m
def g_X14_adds__256_257 (w : rf_w) (m : rf_m) (a1 : Int32) (a3 : Int32) : Option (rf_m) := g_X14_adds__256_257_6 w rf_fuel a1 a3 0 0 m
theorem s_X14_adds__256_257_6_b {w : rf_w} {K : rf_K} {r : rf_m} (C : rf_Ctx 14 cX14_adds 7 1 (rf_sh w) K) (hE : rf_End none K (rf_sh w) 0 0 none (rf_MM w r)) {rec6 : Int32 → Int32 → Int64 → Int32 → rf_m → Option (rf_m)} (hr6 : ∀ (a1 : Int32) (a3 : Int32) (a4 : Int64) (a6 : Int32) (m : rf_m), rec6 a1 a3 a4 a6 m = some r → rf_V 7 (rf_sh w) K 0 0 6 ([(0, .ref 256), (1, .int a1), (2, .ref 257), (3, .int a3), (4, .long a4), (6, .int a6)], [], rf_MM w m)) (a1 : Int32) (a3 : Int32) (a4 : Int64) (a6 : Int32) (m : rf_m) (hg : g_X14_adds__256_257_6_b w rec6 a1 a3 a4 a6 m = some r) : rf_V 7 (rf_sh w) K 0 0 6 ([(0, .ref 256), (1, .int a1), (2, .ref 257), (3, .int a3), (4, .long a4), (6, .int a6)], [], rf_MM w m) := by
  unfold g_X14_adds__256_257_6_b at hg
  refine rf_seg C [(.iload 6, 2), (.iconst 6, 2)] (pc' := 10) (S' := ([(0, .ref 256), (1, .int a1), (2, .ref 257), (3, .int a3), (4, .long a4), (6, .int a6)], [.int 6, .int a6], rf_MM w m)) (by decide +kernel) rfl trivial ?_
  refine rf_icmp_ge C 53 63 (by decide +kernel) (fun hc => ?_) (fun hc => ?_)
  · replace hg := (if_pos hc).symm.trans hg
    obtain rfl := Option.some.inj hg
    exact rf_vret C hE (by decide +kernel)
  · replace hg := (if_neg hc).symm.trans hg
    obtain ⟨q0, hg⟩ := rf_g_some hg
    obtain ⟨q1, hg⟩ := rf_g_some hg
    refine rf_seg C [(.lload 4, 2), (.aload 0, 1), (.iload 1, 1), (.iload 6, 2), (.iadd, 1), (.iaload, 1), (.i2l, 1), (.goto_w 4294967295, 3), (.land, 1), (.aload 2, 1), (.iload 3, 1), (.iload 6, 2), (.iadd, 1), (.iaload, 1), (.i2l, 1), (.goto_w 4294967295, 3), (.land, 1), (.ladd, 1), (.ladd, 1)] (pc' := 39) (S' := ([(0, .ref 256), (1, .int a1), (2, .ref 257), (3, .int a3), (4, .long a4), (6, .int a6)], [.long (a4 + (((Int32.toInt64 (m.1 256 (Int32.toNatClampNeg (a1 + a6)))) &&& 4294967295) + ((Int32.toInt64 (m.1 257 (Int32.toNatClampNeg (a3 + a6)))) &&& 4294967295)))], rf_MM w m)) (by decide +kernel) rfl (by exact ⟨(rf_in_of q0), (rf_in_of q1)⟩) ?_
    obtain ⟨x2, hx2, hg⟩ := rf_vl_some hg
    refine rf_vl_top hx2 ?_
    obtain ⟨q3, hg⟩ := rf_g_some hg
    refine rf_seg C [(.lstore 4, 2), (.aload 0, 1), (.iload 1, 1), (.iload 6, 2), (.iadd, 1), (.lload 4, 2), (.l2i, 1), (.iastore, 1), (.lload 4, 2), (.iconst 32, 2), (.lushr, 1)] (pc' := 55) (S' := ([(4, .long x2), (0, .ref 256), (1, .int a1), (2, .ref 257), (3, .int a3), (6, .int a6)], [.long ((Int64.toUInt64 x2 >>> ((Int32.toInt64 32).toUInt64 &&& Int64.toUInt64 63)).toInt64)], rf_MM w (rf_i m 256 (Int32.toNatClampNeg (a1 + a6)) (Int64.toInt32 x2)))) (by decide +kernel) rfl (rf_in_of q3) ?_
    obtain ⟨x4, hx4, hg⟩ := rf_vl_some hg
    refine rf_vl_top hx4 ?_
    refine rf_seg C [(.lstore 4, 2), (.iinc 6 1, 3)] (pc' := 60) (S' := ([(6, .int (a6 + 1)), (4, .long x4), (0, .ref 256), (1, .int a1), (2, .ref 257), (3, .int a3)], [], rf_MM w (rf_i m 256 (Int32.toNatClampNeg (a1 + a6)) (Int64.toInt32 x2)))) (by decide +kernel) rfl trivial ?_
    refine rf_goto C (-54) 6 (by decide +kernel) ?_
    refine rf_few [2, 3, 4, 5, 1, 0] rfl ?_
    exact hr6 a1 a3 x4 (a6 + 1) (rf_i m 256 (Int32.toNatClampNeg (a1 + a6)) (Int64.toInt32 x2)) hg
theorem s_X14_adds__256_257_6 {w : rf_w} {K : rf_K} {r : rf_m} (C : rf_Ctx 14 cX14_adds 7 1 (rf_sh w) K) (hE : rf_End none K (rf_sh w) 0 0 none (rf_MM w r)) (n : Nat) : ∀ (a1 : Int32) (a3 : Int32) (a4 : Int64) (a6 : Int32) (m : rf_m), g_X14_adds__256_257_6 w n a1 a3 a4 a6 m = some r → rf_V 7 (rf_sh w) K 0 0 6 ([(0, .ref 256), (1, .int a1), (2, .ref 257), (3, .int a3), (4, .long a4), (6, .int a6)], [], rf_MM w m) := by
  induction n with
  | zero => intro a1 a3 a4 a6 m hg; cases hg
  | succ n ih => intro a1 a3 a4 a6 m hg; exact s_X14_adds__256_257_6_b C hE ih a1 a3 a4 a6 m hg
theorem c_X14_adds__256_257 {w : rf_w} {m : rf_m} {a1 : Int32} {a3 : Int32} {r : rf_m} (hg : g_X14_adds__256_257 w m a1 a3 = some r) : rf_Con j_X14_adds__256_257 1 (rf_sh w) [.ref 256, .int a1, .ref 257, .int a3] (rf_MM w m) none (rf_MM w r) := by
  refine rf_con j_X14_adds__256_257 1 ⟨by decide +kernel, rfl, Nat.le_of_ble_eq_true rfl⟩ (fun K C hE => ?_)
  unfold g_X14_adds__256_257 at hg
  show rf_V 7 (rf_sh w) K 0 0 0 ([(0, .ref 256), (1, .int a1), (2, .ref 257), (3, .int a3)], [], rf_MM w m)
  refine rf_seg C [(.goto_w 0, 1), (.lstore 4, 2), (.iconst 0, 1), (.istore 6, 2)] (pc' := 6) (S' := ([(6, .int 0), (4, .long 0), (0, .ref 256), (1, .int a1), (2, .ref 257), (3, .int a3)], [], rf_MM w m)) (by decide +kernel) rfl trivial ?_
  refine rf_few [2, 3, 4, 5, 1, 0] rfl ?_
  exact s_X14_adds__256_257_6 C hE rf_fuel a1 a3 0 0 m hg
-- X14_copies__258_256
abbrev j_X14_copies__258_256 : rf_J := (14, yX14_copies, cX14_copies, 5, none)
theorem mw_X14_copies__258_256 : rf_ms j_X14_copies__258_256 4 := ⟨⟨rf_mem 71 (by decide +kernel), rf_mem 0 (by decide +kernel), rf_mem 71 (by decide +kernel)⟩, by decide +kernel, by decide⟩
def g_X14_copies__258_256_3_b (w : rf_w) (rec3 : Int32 → Int32 → Int32 → rf_m → Option (rf_m)) (a1 : Int32) (a3 : Int32) (a4 : Int32) (m : rf_m) : Option (rf_m) := (if 6 ≤ a4 then some m else rf_g (rf_in (a3 + a4) 384) (rf_g (rf_in (a1 + a4) 36) (rec3 a1 a3 (a4 + 1) (rf_i m 258 (Int32.toNatClampNeg (a1 + a4)) (m.1 256 (Int32.toNatClampNeg (a3 + a4)))))))
def g_X14_copies__258_256_3 (w : rf_w) : Nat → Int32 → Int32 → Int32 → rf_m → Option (rf_m)
  | 0, _, _, _, _ => none
  | n + 1, a1, a3, a4, m => g_X14_copies__258_256_3_b w (g_X14_copies__258_256_3 w n) a1 a3 a4 m
def g_X14_copies__258_256 (w : rf_w) (m : rf_m) (a1 : Int32) (a3 : Int32) : Option (rf_m) := g_X14_copies__258_256_3 w rf_fuel a1 a3 0 m
theorem s_X14_copies__258_256_3_b {w : rf_w} {K : rf_K} {r : rf_m} (C : rf_Ctx 14 cX14_copies 5 1 (rf_sh w) K) (hE : rf_End none K (rf_sh w) 0 0 none (rf_MM w r)) {rec3 : Int32 → Int32 → Int32 → rf_m → Option (rf_m)} (hr3 : ∀ (a1 : Int32) (a3 : Int32) (a4 : Int32) (m : rf_m), rec3 a1 a3 a4 m = some r → rf_V 5 (rf_sh w) K 0 0 3 ([(0, .ref 258), (1, .int a1), (2, .ref 256), (3, .int a3), (4, .int a4)], [], rf_MM w m)) (a1 : Int32) (a3 : Int32) (a4 : Int32) (m : rf_m) (hg : g_X14_copies__258_256_3_b w rec3 a1 a3 a4 m = some r) : rf_V 5 (rf_sh w) K 0 0 3 ([(0, .ref 258), (1, .int a1), (2, .ref 256), (3, .int a3), (4, .int a4)], [], rf_MM w m) := by
  unfold g_X14_copies__258_256_3_b at hg
  refine rf_seg C [(.iload 4, 2), (.iconst 6, 2)] (pc' := 7) (S' := ([(0, .ref 258), (1, .int a1), (2, .ref 256), (3, .int a3), (4, .int a4)], [.int 6, .int a4], rf_MM w m)) (by decide +kernel) rfl trivial ?_
  refine rf_icmp_ge C 21 28 (by decide +kernel) (fun hc => ?_) (fun hc => ?_)
  · replace hg := (if_pos hc).symm.trans hg
    obtain rfl := Option.some.inj hg
    exact rf_vret C hE (by decide +kernel)
  · replace hg := (if_neg hc).symm.trans hg
    obtain ⟨q0, hg⟩ := rf_g_some hg
    obtain ⟨q1, hg⟩ := rf_g_some hg
    refine rf_seg C [(.aload 0, 1), (.iload 1, 1), (.iload 4, 2), (.iadd, 1), (.aload 2, 1), (.iload 3, 1), (.iload 4, 2), (.iadd, 1), (.iaload, 1), (.iastore, 1), (.iinc 4 1, 3)] (pc' := 25) (S' := ([(4, .int (a4 + 1)), (0, .ref 258), (1, .int a1), (2, .ref 256), (3, .int a3)], [], rf_MM w (rf_i m 258 (Int32.toNatClampNeg (a1 + a4)) (m.1 256 (Int32.toNatClampNeg (a3 + a4)))))) (by decide +kernel) rfl (by exact ⟨(rf_in_of q0), (rf_in_of q1)⟩) ?_
    refine rf_goto C (-22) 3 (by decide +kernel) ?_
    refine rf_few [1, 2, 3, 4, 0] rfl ?_
    exact hr3 a1 a3 (a4 + 1) (rf_i m 258 (Int32.toNatClampNeg (a1 + a4)) (m.1 256 (Int32.toNatClampNeg (a3 + a4)))) hg
theorem s_X14_copies__258_256_3 {w : rf_w} {K : rf_K} {r : rf_m} (C : rf_Ctx 14 cX14_copies 5 1 (rf_sh w) K) (hE : rf_End none K (rf_sh w) 0 0 none (rf_MM w r)) (n : Nat) : ∀ (a1 : Int32) (a3 : Int32) (a4 : Int32) (m : rf_m), g_X14_copies__258_256_3 w n a1 a3 a4 m = some r → rf_V 5 (rf_sh w) K 0 0 3 ([(0, .ref 258), (1, .int a1), (2, .ref 256), (3, .int a3), (4, .int a4)], [], rf_MM w m) := by
  induction n with
  | zero => intro a1 a3 a4 m hg; cases hg
  | succ n ih => intro a1 a3 a4 m hg; exact s_X14_copies__258_256_3_b C hE ih a1 a3 a4 m hg
theorem c_X14_copies__258_256 {w : rf_w} {m : rf_m} {a1 : Int32} {a3 : Int32} {r : rf_m} (hg : g_X14_copies__258_256 w m a1 a3 = some r) : rf_Con j_X14_copies__258_256 1 (rf_sh w) [.ref 258, .int a1, .ref 256, .int a3] (rf_MM w m) none (rf_MM w r) := by
  refine rf_con j_X14_copies__258_256 1 ⟨by decide +kernel, rfl, Nat.le_of_ble_eq_true rfl⟩ (fun K C hE => ?_)
  unfold g_X14_copies__258_256 at hg
  show rf_V 5 (rf_sh w) K 0 0 0 ([(0, .ref 258), (1, .int a1), (2, .ref 256), (3, .int a3)], [], rf_MM w m)
  refine rf_seg C [(.iconst 0, 1), (.istore 4, 2)] (pc' := 3) (S' := ([(4, .int 0), (0, .ref 258), (1, .int a1), (2, .ref 256), (3, .int a3)], [], rf_MM w m)) (by decide +kernel) rfl trivial ?_
  refine rf_few [1, 2, 3, 4, 0] rfl ?_
  exact s_X14_copies__258_256_3 C hE rf_fuel a1 a3 0 m hg
-- X14_set__256
abbrev j_X14_set__256 : rf_J := (14, yX14_set, cX14_set, 5, none)
theorem mw_X14_set__256 : rf_ms j_X14_set__256 3 := ⟨⟨rf_mem 71 (by decide +kernel), rf_mem 0 (by decide +kernel), rf_mem 71 (by decide +kernel)⟩, by decide +kernel, by decide⟩
def g_X14_set__256_50 (w : rf_w) (rec3 : Int32 → Int64 → Int32 → rf_m → Option (rf_m)) (a1 : Int32) (a2 : Int64) (a4 : Int32) (s1 : Int32) (s2 : Int32) (m : rf_m) : Option (rf_m) := rf_g (rf_in s1 384) (rec3 a1 a2 (a4 + 1) (rf_i m 256 (Int32.toNatClampNeg s1) s2))
def g_X14_set__256_3_b (w : rf_w) (rec3 : Int32 → Int64 → Int32 → rf_m → Option (rf_m)) (a1 : Int32) (a2 : Int64) (a4 : Int32) (m : rf_m) : Option (rf_m) := (if 6 ≤ a4 then some m else (if a4 = 0 then g_X14_set__256_50 w rec3 a1 a2 a4 (a1 + a4) (Int64.toInt32 a2) m else (if a4 = 1 then g_X14_set__256_50 w rec3 a1 a2 a4 (a1 + a4) (Int64.toInt32 (a2 >>> (Int32.toInt64 32 &&& 63))) m else (if (0 : Int32) ≤ (lg_cmp a2 0) then g_X14_set__256_50 w rec3 a1 a2 a4 (a1 + a4) 0 m else g_X14_set__256_50 w rec3 a1 a2 a4 (a1 + a4) ((-1)) m))))
def g_X14_set__256_3 (w : rf_w) : Nat → Int32 → Int64 → Int32 → rf_m → Option (rf_m)
  | 0, _, _, _, _ => none
  | n + 1, a1, a2, a4, m => g_X14_set__256_3_b w (g_X14_set__256_3 w n) a1 a2 a4 m
def g_X14_set__256 (w : rf_w) (m : rf_m) (a1 : Int32) (a2 : Int64) : Option (rf_m) := g_X14_set__256_3 w rf_fuel a1 a2 0 m
theorem s_X14_set__256_50 {w : rf_w} {K : rf_K} {r : rf_m} (C : rf_Ctx 14 cX14_set 5 1 (rf_sh w) K) (hE : rf_End none K (rf_sh w) 0 0 none (rf_MM w r)) {rec3 : Int32 → Int64 → Int32 → rf_m → Option (rf_m)} (hr3 : ∀ (a1 : Int32) (a2 : Int64) (a4 : Int32) (m : rf_m), rec3 a1 a2 a4 m = some r → rf_V 5 (rf_sh w) K 0 0 3 ([(0, .ref 256), (1, .int a1), (2, .long a2), (4, .int a4)], [], rf_MM w m)) (a1 : Int32) (a2 : Int64) (a4 : Int32) (s1 : Int32) (s2 : Int32) (m : rf_m) (hg : g_X14_set__256_50 w rec3 a1 a2 a4 s1 s2 m = some r) : rf_V 5 (rf_sh w) K 0 0 50 ([(0, .ref 256), (1, .int a1), (2, .long a2), (4, .int a4)], [.int s2, .int s1, .ref 256], rf_MM w m) := by
  unfold g_X14_set__256_50 at hg
  obtain ⟨q0, hg⟩ := rf_g_some hg
  refine rf_seg C [(.iastore, 1), (.iinc 4 1, 3)] (pc' := 54) (S' := ([(4, .int (a4 + 1)), (0, .ref 256), (1, .int a1), (2, .long a2)], [], rf_MM w (rf_i m 256 (Int32.toNatClampNeg s1) s2))) (by decide +kernel) rfl (rf_in_of q0) ?_
  refine rf_goto C (-51) 3 (by decide +kernel) ?_
  refine rf_few [1, 2, 3, 0] rfl ?_
  exact hr3 a1 a2 (a4 + 1) (rf_i m 256 (Int32.toNatClampNeg s1) s2) hg
theorem s_X14_set__256_3_b {w : rf_w} {K : rf_K} {r : rf_m} (C : rf_Ctx 14 cX14_set 5 1 (rf_sh w) K) (hE : rf_End none K (rf_sh w) 0 0 none (rf_MM w r)) {rec3 : Int32 → Int64 → Int32 → rf_m → Option (rf_m)} (hr3 : ∀ (a1 : Int32) (a2 : Int64) (a4 : Int32) (m : rf_m), rec3 a1 a2 a4 m = some r → rf_V 5 (rf_sh w) K 0 0 3 ([(0, .ref 256), (1, .int a1), (2, .long a2), (4, .int a4)], [], rf_MM w m)) (a1 : Int32) (a2 : Int64) (a4 : Int32) (m : rf_m) (hg : g_X14_set__256_3_b w rec3 a1 a2 a4 m = some r) : rf_V 5 (rf_sh w) K 0 0 3 ([(0, .ref 256), (1, .int a1), (2, .long a2), (4, .int a4)], [], rf_MM w m) := by
  unfold g_X14_set__256_3_b at hg
  refine rf_seg C [(.iload 4, 2), (.iconst 6, 2)] (pc' := 7) (S' := ([(0, .ref 256), (1, .int a1), (2, .long a2), (4, .int a4)], [.int 6, .int a4], rf_MM w m)) (by decide +kernel) rfl trivial ?_
  refine rf_icmp_ge C 50 57 (by decide +kernel) (fun hc => ?_) (fun hc => ?_)
  · replace hg := (if_pos hc).symm.trans hg
    obtain rfl := Option.some.inj hg
    exact rf_vret C hE (by decide +kernel)
  · replace hg := (if_neg hc).symm.trans hg
    refine rf_seg C [(.aload 0, 1), (.iload 1, 1), (.iload 4, 2), (.iadd, 1), (.iload 4, 2)] (pc' := 17) (S' := ([(0, .ref 256), (1, .int a1), (2, .long a2), (4, .int a4)], [.int a4, .int (a1 + a4), .ref 256], rf_MM w m)) (by decide +kernel) rfl trivial ?_
    refine rf_if_ne C 8 25 (by decide +kernel) (fun hc => ?_) (fun hc => ?_)
    · replace hg := (if_neg hc).symm.trans hg
      refine rf_seg C [(.iload 4, 2), (.iconst 1, 1)] (pc' := 28) (S' := ([(0, .ref 256), (1, .int a1), (2, .long a2), (4, .int a4)], [.int 1, .int a4, .int (a1 + a4), .ref 256], rf_MM w m)) (by decide +kernel) rfl trivial ?_
      refine rf_icmp_ne C 11 39 (by decide +kernel) (fun hc => ?_) (fun hc => ?_)
      · replace hg := (if_neg hc).symm.trans hg
        refine rf_seg C [(.lload 2, 1), (.goto_w 0, 1), (.lcmp, 1)] (pc' := 42) (S' := ([(0, .ref 256), (1, .int a1), (2, .long a2), (4, .int a4)], [.int (lg_cmp a2 0), .int (a1 + a4), .ref 256], rf_MM w m)) (by decide +kernel) rfl trivial ?_
        refine rf_if_ge C 7 49 (by decide +kernel) (fun hc => ?_) (fun hc => ?_)
        · replace hg := (if_pos hc).symm.trans hg
          refine rf_seg C [(.iconst 0, 1)] (pc' := 50) (S' := ([(0, .ref 256), (1, .int a1), (2, .long a2), (4, .int a4)], [.int 0, .int (a1 + a4), .ref 256], rf_MM w m)) (by decide +kernel) rfl trivial ?_
          refine rf_few [0, 1, 2, 3] rfl ?_
          exact s_X14_set__256_50 C hE hr3 a1 a2 a4 (a1 + a4) 0 m hg
        · replace hg := (if_neg hc).symm.trans hg
          refine rf_seg C [(.iconst (-1), 1)] (pc' := 46) (S' := ([(0, .ref 256), (1, .int a1), (2, .long a2), (4, .int a4)], [.int ((-1)), .int (a1 + a4), .ref 256], rf_MM w m)) (by decide +kernel) rfl trivial ?_
          refine rf_goto C 4 50 (by decide +kernel) ?_
          refine rf_few [0, 1, 2, 3] rfl ?_
          exact s_X14_set__256_50 C hE hr3 a1 a2 a4 (a1 + a4) ((-1)) m hg
      · replace hg := (if_pos hc).symm.trans hg
        refine rf_seg C [(.lload 2, 1), (.iconst 32, 2), (.lshr, 1), (.l2i, 1)] (pc' := 36) (S' := ([(0, .ref 256), (1, .int a1), (2, .long a2), (4, .int a4)], [.int (Int64.toInt32 (a2 >>> (Int32.toInt64 32 &&& 63))), .int (a1 + a4), .ref 256], rf_MM w m)) (by decide +kernel) rfl trivial ?_
        refine rf_goto C 14 50 (by decide +kernel) ?_
        refine rf_few [0, 1, 2, 3] rfl ?_
        exact s_X14_set__256_50 C hE hr3 a1 a2 a4 (a1 + a4) (Int64.toInt32 (a2 >>> (Int32.toInt64 32 &&& 63))) m hg
    · replace hg := (if_pos hc).symm.trans hg
      refine rf_seg C [(.lload 2, 1), (.l2i, 1)] (pc' := 22) (S' := ([(0, .ref 256), (1, .int a1), (2, .long a2), (4, .int a4)], [.int (Int64.toInt32 a2), .int (a1 + a4), .ref 256], rf_MM w m)) (by decide +kernel) rfl trivial ?_
      refine rf_goto C 28 50 (by decide +kernel) ?_
      refine rf_few [0, 1, 2, 3] rfl ?_
      exact s_X14_set__256_50 C hE hr3 a1 a2 a4 (a1 + a4) (Int64.toInt32 a2) m hg
theorem s_X14_set__256_3 {w : rf_w} {K : rf_K} {r : rf_m} (C : rf_Ctx 14 cX14_set 5 1 (rf_sh w) K) (hE : rf_End none K (rf_sh w) 0 0 none (rf_MM w r)) (n : Nat) : ∀ (a1 : Int32) (a2 : Int64) (a4 : Int32) (m : rf_m), g_X14_set__256_3 w n a1 a2 a4 m = some r → rf_V 5 (rf_sh w) K 0 0 3 ([(0, .ref 256), (1, .int a1), (2, .long a2), (4, .int a4)], [], rf_MM w m) := by
  induction n with
  | zero => intro a1 a2 a4 m hg; cases hg
  | succ n ih => intro a1 a2 a4 m hg; exact s_X14_set__256_3_b C hE ih a1 a2 a4 m hg
theorem c_X14_set__256 {w : rf_w} {m : rf_m} {a1 : Int32} {a2 : Int64} {r : rf_m} (hg : g_X14_set__256 w m a1 a2 = some r) : rf_Con j_X14_set__256 1 (rf_sh w) [.ref 256, .int a1, .long a2] (rf_MM w m) none (rf_MM w r) := by
  refine rf_con j_X14_set__256 1 ⟨by decide +kernel, rfl, Nat.le_of_ble_eq_true rfl⟩ (fun K C hE => ?_)
  unfold g_X14_set__256 at hg
  show rf_V 5 (rf_sh w) K 0 0 0 ([(0, .ref 256), (1, .int a1), (2, .long a2)], [], rf_MM w m)
  refine rf_seg C [(.iconst 0, 1), (.istore 4, 2)] (pc' := 3) (S' := ([(4, .int 0), (0, .ref 256), (1, .int a1), (2, .long a2)], [], rf_MM w m)) (by decide +kernel) rfl trivial ?_
  refine rf_few [1, 2, 3, 0] rfl ?_
  exact s_X14_set__256_3 C hE rf_fuel a1 a2 0 m hg
-- X14_determinant__258
abbrev j_X14_determinant__258 : rf_J := (14, yX14_determinant, cX14_determinant, 10, none)
theorem mw_X14_determinant__258 : rf_mv j_X14_determinant__258 (rf_R 14) 4 := ⟨⟨rf_mem 71 (by decide +kernel), rf_mem 71 (by decide +kernel), rf_mem 0 (by decide +kernel), rf_mem 71 (by decide +kernel)⟩, by decide +kernel, by decide⟩
def g_X14_determinant__258_172 (w : rf_w) (rec12 : Int32 → Int32 → Int32 → Int32 → rf_m → Option (rf_m)) (rec45 : Int32 → Int32 → Int32 → Int32 → Int32 → Int32 → rf_m → Option (rf_m)) (a1 : Int32) (a2 : Int32) (a4 : Int32) (a5 : Int32) (a6 : Int32) (a7 : Int32) (m : rf_m) : Option (rf_m) := rec45 a1 a2 a4 a5 a6 (a7 + 1) m
def g_X14_determinant__258_152 (w : rf_w) (rec12 : Int32 → Int32 → Int32 → Int32 → rf_m → Option (rf_m)) (rec45 : Int32 → Int32 → Int32 → Int32 → Int32 → Int32 → rf_m → Option (rf_m)) (a1 : Int32) (a2 : Int32) (a4 : Int32) (a5 : Int32) (a6 : Int32) (a7 : Int32) (s1 : Int32) (s3 : Int32) (s4 : Int32) (m : rf_m) : Option (rf_m) := rf_bv (g_X14_times__257_256 w m s1 s3 s4) fun m0 => rf_bv (g_X14_adds__256_257 w m0 (6 * a5) 0) fun m1 => g_X14_determinant__258_172 w rec12 rec45 a1 a2 a4 a5 a6 a7 m1
def g_X14_determinant__258_116 (w : rf_w) (rec12 : Int32 → Int32 → Int32 → Int32 → rf_m → Option (rf_m)) (rec45 : Int32 → Int32 → Int32 → Int32 → Int32 → Int32 → rf_m → Option (rf_m)) (a1 : Int32) (a2 : Int32) (a4 : Int32) (a5 : Int32) (a6 : Int32) (a7 : Int32) (a8 : Int32) (s0 : Int32) (m : rf_m) : Option (rf_m) := (if s0 = 0 then g_X14_determinant__258_152 w rec12 rec45 a1 a2 a4 a5 a6 a7 0 (6 * (a5 &&& ((1 <<< (a7 &&& 31)) ^^^ ((-1))))) a8 m else g_X14_determinant__258_152 w rec12 rec45 a1 a2 a4 a5 a6 a7 0 (6 * (a5 &&& ((1 <<< (a7 &&& 31)) ^^^ ((-1))))) (-a8) m)
def g_X14_determinant__258_93 (w : rf_w) (rec12 : Int32 → Int32 → Int32 → Int32 → rf_m → Option (rf_m)) (rec45 : Int32 → Int32 → Int32 → Int32 → Int32 → Int32 → rf_m → Option (rf_m)) (a1 : Int32) (a2 : Int32) (a4 : Int32) (a5 : Int32) (a6 : Int32) (a7 : Int32) (s0 : Int32) (m : rf_m) : Option (rf_m) := rf_b (g_X14_bits w m (a5 >>> ((a7 + 1) &&& 31))) fun y0 m0 => (if (y0 &&& 1) = 1 then g_X14_determinant__258_116 w rec12 rec45 a1 a2 a4 a5 a6 a7 s0 1 m0 else g_X14_determinant__258_116 w rec12 rec45 a1 a2 a4 a5 a6 a7 s0 0 m0)
def g_X14_determinant__258_45_b (w : rf_w) (rec12 : Int32 → Int32 → Int32 → Int32 → rf_m → Option (rf_m)) (rec45 : Int32 → Int32 → Int32 → Int32 → Int32 → Int32 → rf_m → Option (rf_m)) (a1 : Int32) (a2 : Int32) (a4 : Int32) (a5 : Int32) (a6 : Int32) (a7 : Int32) (m : rf_m) : Option (rf_m) := (if a1 ≤ a7 then rec12 a1 a2 a4 (a5 + 1) m else (if ((a5 >>> (a7 &&& 31)) &&& 1) = 0 then g_X14_determinant__258_172 w rec12 rec45 a1 a2 a4 a5 a6 a7 m else (if a7 = a2 then rf_g (rf_in a6 6) (g_X14_determinant__258_93 w rec12 rec45 a1 a2 a4 a5 a6 a7 (m.1 255 (Int32.toNatClampNeg a6)) m) else rf_g (rf_in ((6 * a6) + a7) 36) (g_X14_determinant__258_93 w rec12 rec45 a1 a2 a4 a5 a6 a7 (m.1 254 (Int32.toNatClampNeg ((6 * a6) + a7))) m))))
def g_X14_determinant__258_45 (w : rf_w) (rec12 : Int32 → Int32 → Int32 → Int32 → rf_m → Option (rf_m)) : Nat → Int32 → Int32 → Int32 → Int32 → Int32 → Int32 → rf_m → Option (rf_m)
  | 0, _, _, _, _, _, _, _ => none
  | n + 1, a1, a2, a4, a5, a6, a7, m => g_X14_determinant__258_45_b w rec12 (g_X14_determinant__258_45 w rec12 n) a1 a2 a4 a5 a6 a7 m
def g_X14_determinant__258_12_b (w : rf_w) (rec12 : Int32 → Int32 → Int32 → Int32 → rf_m → Option (rf_m)) (a1 : Int32) (a2 : Int32) (a4 : Int32) (a5 : Int32) (m : rf_m) : Option (rf_m) := (if (1 <<< (a1 &&& 31)) ≤ a5 then rf_bv (g_X14_copies__258_256 w m a4 (6 * ((1 <<< (a1 &&& 31)) - 1))) fun m0 => some m0 else rf_bv (g_X14_set__256 w m (6 * a5) 0) fun m1 => rf_b (g_X14_bits w m1 a5) fun y2 m2 => g_X14_determinant__258_45 w rec12 rf_fuel a1 a2 a4 a5 (y2 - 1) 0 m2)
def g_X14_determinant__258_12 (w : rf_w) : Nat → Int32 → Int32 → Int32 → Int32 → rf_m → Option (rf_m)
  | 0, _, _, _, _, _ => none
  | n + 1, a1, a2, a4, a5, m => g_X14_determinant__258_12_b w (g_X14_determinant__258_12 w n) a1 a2 a4 a5 m
def g_X14_determinant__258 (w : rf_w) (m : rf_m) (a1 : Int32) (a2 : Int32) (a4 : Int32) : Option (rf_m) := rf_bv (g_X14_set__256 w m 0 1) fun m0 => g_X14_determinant__258_12 w rf_fuel a1 a2 a4 1 m0
theorem s_X14_determinant__258_172 {w : rf_w} {K : rf_K} {r : rf_m} (C : rf_Ctx 14 cX14_determinant 10 3 (rf_sh w) K) (hE : rf_End none K (rf_sh w) 0 0 none (rf_MM w r)) {rec12 : Int32 → Int32 → Int32 → Int32 → rf_m → Option (rf_m)} {rec45 : Int32 → Int32 → Int32 → Int32 → Int32 → Int32 → rf_m → Option (rf_m)} (hr12 : ∀ (a1 : Int32) (a2 : Int32) (a4 : Int32) (a5 : Int32) (m : rf_m), rec12 a1 a2 a4 a5 m = some r → rf_V 10 (rf_sh w) K 0 0 12 ([(0, .ref 206), (1, .int a1), (2, .int a2), (3, .ref 258), (4, .int a4), (5, .int a5)], [], rf_MM w m)) (hr45 : ∀ (a1 : Int32) (a2 : Int32) (a4 : Int32) (a5 : Int32) (a6 : Int32) (a7 : Int32) (m : rf_m), rec45 a1 a2 a4 a5 a6 a7 m = some r → rf_V 10 (rf_sh w) K 0 0 45 ([(0, .ref 206), (1, .int a1), (2, .int a2), (3, .ref 258), (4, .int a4), (5, .int a5), (6, .int a6), (7, .int a7)], [], rf_MM w m)) (a1 : Int32) (a2 : Int32) (a4 : Int32) (a5 : Int32) (a6 : Int32) (a7 : Int32) (m : rf_m) (hg : g_X14_determinant__258_172 w rec12 rec45 a1 a2 a4 a5 a6 a7 m = some r) : rf_V 10 (rf_sh w) K 0 0 172 ([(0, .ref 206), (1, .int a1), (2, .int a2), (3, .ref 258), (4, .int a4), (5, .int a5), (6, .int a6), (7, .int a7)], [], rf_MM w m) := by
  unfold g_X14_determinant__258_172 at hg
  refine rf_seg C [(.iinc 7 1, 3)] (pc' := 175) (S' := ([(7, .int (a7 + 1)), (0, .ref 206), (1, .int a1), (2, .int a2), (3, .ref 258), (4, .int a4), (5, .int a5), (6, .int a6)], [], rf_MM w m)) (by decide +kernel) rfl trivial ?_
  refine rf_goto C (-130) 45 (by decide +kernel) ?_
  refine rf_few [1, 2, 3, 4, 5, 6, 7, 0] rfl ?_
  exact hr45 a1 a2 a4 a5 a6 (a7 + 1) m hg
theorem s_X14_determinant__258_152 {w : rf_w} {K : rf_K} {r : rf_m} (C : rf_Ctx 14 cX14_determinant 10 3 (rf_sh w) K) (hE : rf_End none K (rf_sh w) 0 0 none (rf_MM w r)) {rec12 : Int32 → Int32 → Int32 → Int32 → rf_m → Option (rf_m)} {rec45 : Int32 → Int32 → Int32 → Int32 → Int32 → Int32 → rf_m → Option (rf_m)} (hr12 : ∀ (a1 : Int32) (a2 : Int32) (a4 : Int32) (a5 : Int32) (m : rf_m), rec12 a1 a2 a4 a5 m = some r → rf_V 10 (rf_sh w) K 0 0 12 ([(0, .ref 206), (1, .int a1), (2, .int a2), (3, .ref 258), (4, .int a4), (5, .int a5)], [], rf_MM w m)) (hr45 : ∀ (a1 : Int32) (a2 : Int32) (a4 : Int32) (a5 : Int32) (a6 : Int32) (a7 : Int32) (m : rf_m), rec45 a1 a2 a4 a5 a6 a7 m = some r → rf_V 10 (rf_sh w) K 0 0 45 ([(0, .ref 206), (1, .int a1), (2, .int a2), (3, .ref 258), (4, .int a4), (5, .int a5), (6, .int a6), (7, .int a7)], [], rf_MM w m)) (a1 : Int32) (a2 : Int32) (a4 : Int32) (a5 : Int32) (a6 : Int32) (a7 : Int32) (s1 : Int32) (s3 : Int32) (s4 : Int32) (m : rf_m) (hg : g_X14_determinant__258_152 w rec12 rec45 a1 a2 a4 a5 a6 a7 s1 s3 s4 m = some r) : rf_V 10 (rf_sh w) K 0 0 152 ([(0, .ref 206), (1, .int a1), (2, .int a2), (3, .ref 258), (4, .int a4), (5, .int a5), (6, .int a6), (7, .int a7)], [.int s4, .int s3, .ref 256, .int s1, .ref 257], rf_MM w m) := by
  unfold g_X14_determinant__258_152 at hg
  obtain ⟨m0, hc0, hg⟩ := rf_bv_some hg
  refine rf_calls C rf_fit0 j_X14_times__257_256 (As := [.ref 257, .int s1, .ref 256, .int s3, .int s4]) (rest := []) mw_X14_times__257_256 (c_X14_times__257_256 hc0) (by decide) lk_14_770 rfl rfl (Nat.le_of_ble_eq_true rfl) (by decide +kernel) ?_
  show rf_V 10 (rf_sh w) K 0 0 155 ([(0, .ref 206), (1, .int a1), (2, .int a2), (3, .ref 258), (4, .int a4), (5, .int a5), (6, .int a6), (7, .int a7)], [], rf_MM w m0)
  refine rf_seg C [(.aload 0, 1), (.invokeinterface 14 79, 3), (.iconst 6, 2), (.iload 5, 2), (.imul, 1), (.aload 0, 1), (.invokeinterface 14 80, 3), (.iconst 0, 1)] (pc' := 169) (S' := ([(0, .ref 206), (1, .int a1), (2, .int a2), (3, .ref 258), (4, .int a4), (5, .int a5), (6, .int a6), (7, .int a7)], [.int 0, .ref 257, .int (6 * a5), .ref 256], rf_MM w m0)) (by decide +kernel) rfl trivial ?_
  obtain ⟨m1, hc1, hg⟩ := rf_bv_some hg
  refine rf_calls C rf_fit0 j_X14_adds__256_257 (As := [.ref 256, .int (6 * a5), .ref 257, .int 0]) (rest := []) mw_X14_adds__256_257 (c_X14_adds__256_257 hc1) (by decide) lk_14_748 rfl rfl (Nat.le_of_ble_eq_true rfl) (by decide +kernel) ?_
  show rf_V 10 (rf_sh w) K 0 0 172 ([(0, .ref 206), (1, .int a1), (2, .int a2), (3, .ref 258), (4, .int a4), (5, .int a5), (6, .int a6), (7, .int a7)], [], rf_MM w m1)
  refine rf_few [0, 1, 2, 3, 4, 5, 6, 7] rfl ?_
  exact s_X14_determinant__258_172 C hE hr12 hr45 a1 a2 a4 a5 a6 a7 m1 hg
theorem s_X14_determinant__258_116 {w : rf_w} {K : rf_K} {r : rf_m} (C : rf_Ctx 14 cX14_determinant 10 3 (rf_sh w) K) (hE : rf_End none K (rf_sh w) 0 0 none (rf_MM w r)) {rec12 : Int32 → Int32 → Int32 → Int32 → rf_m → Option (rf_m)} {rec45 : Int32 → Int32 → Int32 → Int32 → Int32 → Int32 → rf_m → Option (rf_m)} (hr12 : ∀ (a1 : Int32) (a2 : Int32) (a4 : Int32) (a5 : Int32) (m : rf_m), rec12 a1 a2 a4 a5 m = some r → rf_V 10 (rf_sh w) K 0 0 12 ([(0, .ref 206), (1, .int a1), (2, .int a2), (3, .ref 258), (4, .int a4), (5, .int a5)], [], rf_MM w m)) (hr45 : ∀ (a1 : Int32) (a2 : Int32) (a4 : Int32) (a5 : Int32) (a6 : Int32) (a7 : Int32) (m : rf_m), rec45 a1 a2 a4 a5 a6 a7 m = some r → rf_V 10 (rf_sh w) K 0 0 45 ([(0, .ref 206), (1, .int a1), (2, .int a2), (3, .ref 258), (4, .int a4), (5, .int a5), (6, .int a6), (7, .int a7)], [], rf_MM w m)) (a1 : Int32) (a2 : Int32) (a4 : Int32) (a5 : Int32) (a6 : Int32) (a7 : Int32) (a8 : Int32) (s0 : Int32) (m : rf_m) (hg : g_X14_determinant__258_116 w rec12 rec45 a1 a2 a4 a5 a6 a7 a8 s0 m = some r) : rf_V 10 (rf_sh w) K 0 0 116 ([(0, .ref 206), (1, .int a1), (2, .int a2), (3, .ref 258), (4, .int a4), (5, .int a5), (6, .int a6), (7, .int a7), (8, .int a8)], [.int s0], rf_MM w m) := by
  unfold g_X14_determinant__258_116 at hg
  refine rf_seg C [(.istore 9, 2), (.aload 0, 1), (.invokeinterface 14 80, 3), (.iconst 0, 1), (.aload 0, 1), (.invokeinterface 14 79, 3), (.iconst 6, 2), (.iload 5, 2), (.iconst 1, 1), (.iload 7, 2), (.ishl, 1), (.iconst (-1), 1), (.ixor, 1), (.iand, 1), (.imul, 1), (.iload 9, 2)] (pc' := 141) (S' := ([(9, .int s0), (0, .ref 206), (1, .int a1), (2, .int a2), (3, .ref 258), (4, .int a4), (5, .int a5), (6, .int a6), (7, .int a7), (8, .int a8)], [.int s0, .int (6 * (a5 &&& ((1 <<< (a7 &&& 31)) ^^^ ((-1))))), .ref 256, .int 0, .ref 257], rf_MM w m)) (by decide +kernel) rfl trivial ?_
  refine rf_if_eq C 9 150 (by decide +kernel) (fun hc => ?_) (fun hc => ?_)
  · replace hg := (if_pos hc).symm.trans hg
    refine rf_seg C [(.iload 8, 2)] (pc' := 152) (S' := ([(9, .int s0), (0, .ref 206), (1, .int a1), (2, .int a2), (3, .ref 258), (4, .int a4), (5, .int a5), (6, .int a6), (7, .int a7), (8, .int a8)], [.int a8, .int (6 * (a5 &&& ((1 <<< (a7 &&& 31)) ^^^ ((-1))))), .ref 256, .int 0, .ref 257], rf_MM w m)) (by decide +kernel) rfl trivial ?_
    refine rf_few [1, 2, 3, 4, 5, 6, 7, 8] rfl ?_
    exact s_X14_determinant__258_152 C hE hr12 hr45 a1 a2 a4 a5 a6 a7 0 (6 * (a5 &&& ((1 <<< (a7 &&& 31)) ^^^ ((-1))))) a8 m hg
  · replace hg := (if_neg hc).symm.trans hg
    refine rf_seg C [(.iload 8, 2), (.ineg, 1)] (pc' := 147) (S' := ([(9, .int s0), (0, .ref 206), (1, .int a1), (2, .int a2), (3, .ref 258), (4, .int a4), (5, .int a5), (6, .int a6), (7, .int a7), (8, .int a8)], [.int (-a8), .int (6 * (a5 &&& ((1 <<< (a7 &&& 31)) ^^^ ((-1))))), .ref 256, .int 0, .ref 257], rf_MM w m)) (by decide +kernel) rfl trivial ?_
    refine rf_goto C 5 152 (by decide +kernel) ?_
    refine rf_few [1, 2, 3, 4, 5, 6, 7, 8] rfl ?_
    exact s_X14_determinant__258_152 C hE hr12 hr45 a1 a2 a4 a5 a6 a7 0 (6 * (a5 &&& ((1 <<< (a7 &&& 31)) ^^^ ((-1))))) (-a8) m hg
theorem s_X14_determinant__258_93 {w : rf_w} {K : rf_K} {r : rf_m} (C : rf_Ctx 14 cX14_determinant 10 3 (rf_sh w) K) (hE : rf_End none K (rf_sh w) 0 0 none (rf_MM w r)) {rec12 : Int32 → Int32 → Int32 → Int32 → rf_m → Option (rf_m)} {rec45 : Int32 → Int32 → Int32 → Int32 → Int32 → Int32 → rf_m → Option (rf_m)} (hr12 : ∀ (a1 : Int32) (a2 : Int32) (a4 : Int32) (a5 : Int32) (m : rf_m), rec12 a1 a2 a4 a5 m = some r → rf_V 10 (rf_sh w) K 0 0 12 ([(0, .ref 206), (1, .int a1), (2, .int a2), (3, .ref 258), (4, .int a4), (5, .int a5)], [], rf_MM w m)) (hr45 : ∀ (a1 : Int32) (a2 : Int32) (a4 : Int32) (a5 : Int32) (a6 : Int32) (a7 : Int32) (m : rf_m), rec45 a1 a2 a4 a5 a6 a7 m = some r → rf_V 10 (rf_sh w) K 0 0 45 ([(0, .ref 206), (1, .int a1), (2, .int a2), (3, .ref 258), (4, .int a4), (5, .int a5), (6, .int a6), (7, .int a7)], [], rf_MM w m)) (a1 : Int32) (a2 : Int32) (a4 : Int32) (a5 : Int32) (a6 : Int32) (a7 : Int32) (s0 : Int32) (m : rf_m) (hg : g_X14_determinant__258_93 w rec12 rec45 a1 a2 a4 a5 a6 a7 s0 m = some r) : rf_V 10 (rf_sh w) K 0 0 93 ([(0, .ref 206), (1, .int a1), (2, .int a2), (3, .ref 258), (4, .int a4), (5, .int a5), (6, .int a6), (7, .int a7)], [.int s0], rf_MM w m) := by
  unfold g_X14_determinant__258_93 at hg
  refine rf_seg C [(.istore 8, 2), (.iload 5, 2), (.iload 7, 2), (.iconst 1, 1), (.iadd, 1), (.ishr, 1)] (pc' := 102) (S' := ([(8, .int s0), (0, .ref 206), (1, .int a1), (2, .int a2), (3, .ref 258), (4, .int a4), (5, .int a5), (6, .int a6), (7, .int a7)], [.int (a5 >>> ((a7 + 1) &&& 31))], rf_MM w m)) (by decide +kernel) rfl trivial ?_
  obtain ⟨y0, m0, hc0, hg⟩ := rf_b_some hg
  refine rf_calls C rf_fit0 j_X14_bits (As := [.int (a5 >>> ((a7 + 1) &&& 31))]) (rest := []) mw_X14_bits (c_X14_bits hc0) (by decide) lk_14_767 rfl rfl (Nat.le_of_ble_eq_true rfl) (by decide +kernel) ?_
  show rf_V 10 (rf_sh w) K 0 0 105 ([(8, .int s0), (0, .ref 206), (1, .int a1), (2, .int a2), (3, .ref 258), (4, .int a4), (5, .int a5), (6, .int a6), (7, .int a7)], [.int y0], rf_MM w m0)
  refine rf_seg C [(.iconst 1, 1), (.iand, 1), (.iconst 1, 1)] (pc' := 108) (S' := ([(8, .int s0), (0, .ref 206), (1, .int a1), (2, .int a2), (3, .ref 258), (4, .int a4), (5, .int a5), (6, .int a6), (7, .int a7)], [.int 1, .int (y0 &&& 1)], rf_MM w m0)) (by decide +kernel) rfl trivial ?_
  refine rf_icmp_ne C 7 115 (by decide +kernel) (fun hc => ?_) (fun hc => ?_)
  · replace hg := (if_neg hc).symm.trans hg
    refine rf_seg C [(.iconst 0, 1)] (pc' := 116) (S' := ([(8, .int s0), (0, .ref 206), (1, .int a1), (2, .int a2), (3, .ref 258), (4, .int a4), (5, .int a5), (6, .int a6), (7, .int a7)], [.int 0], rf_MM w m0)) (by decide +kernel) rfl trivial ?_
    refine rf_few [1, 2, 3, 4, 5, 6, 7, 8, 0] rfl ?_
    exact s_X14_determinant__258_116 C hE hr12 hr45 a1 a2 a4 a5 a6 a7 s0 0 m0 hg
  · replace hg := (if_pos hc).symm.trans hg
    refine rf_seg C [(.iconst 1, 1)] (pc' := 112) (S' := ([(8, .int s0), (0, .ref 206), (1, .int a1), (2, .int a2), (3, .ref 258), (4, .int a4), (5, .int a5), (6, .int a6), (7, .int a7)], [.int 1], rf_MM w m0)) (by decide +kernel) rfl trivial ?_
    refine rf_goto C 4 116 (by decide +kernel) ?_
    refine rf_few [1, 2, 3, 4, 5, 6, 7, 8, 0] rfl ?_
    exact s_X14_determinant__258_116 C hE hr12 hr45 a1 a2 a4 a5 a6 a7 s0 1 m0 hg
theorem s_X14_determinant__258_45_b {w : rf_w} {K : rf_K} {r : rf_m} (C : rf_Ctx 14 cX14_determinant 10 3 (rf_sh w) K) (hE : rf_End none K (rf_sh w) 0 0 none (rf_MM w r)) {rec12 : Int32 → Int32 → Int32 → Int32 → rf_m → Option (rf_m)} {rec45 : Int32 → Int32 → Int32 → Int32 → Int32 → Int32 → rf_m → Option (rf_m)} (hr12 : ∀ (a1 : Int32) (a2 : Int32) (a4 : Int32) (a5 : Int32) (m : rf_m), rec12 a1 a2 a4 a5 m = some r → rf_V 10 (rf_sh w) K 0 0 12 ([(0, .ref 206), (1, .int a1), (2, .int a2), (3, .ref 258), (4, .int a4), (5, .int a5)], [], rf_MM w m)) (hr45 : ∀ (a1 : Int32) (a2 : Int32) (a4 : Int32) (a5 : Int32) (a6 : Int32) (a7 : Int32) (m : rf_m), rec45 a1 a2 a4 a5 a6 a7 m = some r → rf_V 10 (rf_sh w) K 0 0 45 ([(0, .ref 206), (1, .int a1), (2, .int a2), (3, .ref 258), (4, .int a4), (5, .int a5), (6, .int a6), (7, .int a7)], [], rf_MM w m)) (a1 : Int32) (a2 : Int32) (a4 : Int32) (a5 : Int32) (a6 : Int32) (a7 : Int32) (m : rf_m) (hg : g_X14_determinant__258_45_b w rec12 rec45 a1 a2 a4 a5 a6 a7 m = some r) : rf_V 10 (rf_sh w) K 0 0 45 ([(0, .ref 206), (1, .int a1), (2, .int a2), (3, .ref 258), (4, .int a4), (5, .int a5), (6, .int a6), (7, .int a7)], [], rf_MM w m) := by
  unfold g_X14_determinant__258_45_b at hg
  refine rf_seg C [(.iload 7, 2), (.iload 1, 1)] (pc' := 48) (S' := ([(0, .ref 206), (1, .int a1), (2, .int a2), (3, .ref 258), (4, .int a4), (5, .int a5), (6, .int a6), (7, .int a7)], [.int a1, .int a7], rf_MM w m)) (by decide +kernel) rfl trivial ?_
  refine rf_icmp_ge C 130 178 (by decide +kernel) (fun hc => ?_) (fun hc => ?_)
  · replace hg := (if_pos hc).symm.trans hg
    refine rf_seg C [(.iinc 5 1, 3)] (pc' := 181) (S' := ([(5, .int (a5 + 1)), (0, .ref 206), (1, .int a1), (2, .int a2), (3, .ref 258), (4, .int a4), (6, .int a6), (7, .int a7)], [], rf_MM w m)) (by decide +kernel) rfl trivial ?_
    refine rf_goto C (-169) 12 (by decide +kernel) ?_
    refine rf_few [1, 2, 3, 4, 5, 0] rfl ?_
    exact hr12 a1 a2 a4 (a5 + 1) m hg
  · replace hg := (if_neg hc).symm.trans hg
    refine rf_seg C [(.iload 5, 2), (.iload 7, 2), (.ishr, 1), (.iconst 1, 1), (.iand, 1)] (pc' := 58) (S' := ([(0, .ref 206), (1, .int a1), (2, .int a2), (3, .ref 258), (4, .int a4), (5, .int a5), (6, .int a6), (7, .int a7)], [.int ((a5 >>> (a7 &&& 31)) &&& 1)], rf_MM w m)) (by decide +kernel) rfl trivial ?_
    refine rf_if_ne C 6 64 (by decide +kernel) (fun hc => ?_) (fun hc => ?_)
    · replace hg := (if_neg hc).symm.trans hg
      refine rf_seg C [(.iload 7, 2), (.iload 2, 1)] (pc' := 67) (S' := ([(0, .ref 206), (1, .int a1), (2, .int a2), (3, .ref 258), (4, .int a4), (5, .int a5), (6, .int a6), (7, .int a7)], [.int a2, .int a7], rf_MM w m)) (by decide +kernel) rfl trivial ?_
      refine rf_icmp_ne C 13 80 (by decide +kernel) (fun hc => ?_) (fun hc => ?_)
      · replace hg := (if_neg hc).symm.trans hg
        obtain ⟨q0, hg⟩ := rf_g_some hg
        refine rf_seg C [(.aload 0, 1), (.invokeinterface 14 77, 3), (.iconst 6, 2), (.iload 6, 2), (.imul, 1), (.iload 7, 2), (.iadd, 1), (.iaload, 1)] (pc' := 93) (S' := ([(0, .ref 206), (1, .int a1), (2, .int a2), (3, .ref 258), (4, .int a4), (5, .int a5), (6, .int a6), (7, .int a7)], [.int (m.1 254 (Int32.toNatClampNeg ((6 * a6) + a7)))], rf_MM w m)) (by decide +kernel) rfl (rf_in_of q0) ?_
        refine rf_few [0, 1, 2, 3, 4, 5, 6, 7] rfl ?_
        exact s_X14_determinant__258_93 C hE hr12 hr45 a1 a2 a4 a5 a6 a7 (m.1 254 (Int32.toNatClampNeg ((6 * a6) + a7))) m hg
      · replace hg := (if_pos hc).symm.trans hg
        obtain ⟨q1, hg⟩ := rf_g_some hg
        refine rf_seg C [(.aload 0, 1), (.invokeinterface 14 78, 3), (.iload 6, 2), (.iaload, 1)] (pc' := 77) (S' := ([(0, .ref 206), (1, .int a1), (2, .int a2), (3, .ref 258), (4, .int a4), (5, .int a5), (6, .int a6), (7, .int a7)], [.int (m.1 255 (Int32.toNatClampNeg a6))], rf_MM w m)) (by decide +kernel) rfl (rf_in_of q1) ?_
        refine rf_goto C 16 93 (by decide +kernel) ?_
        refine rf_few [0, 1, 2, 3, 4, 5, 6, 7] rfl ?_
        exact s_X14_determinant__258_93 C hE hr12 hr45 a1 a2 a4 a5 a6 a7 (m.1 255 (Int32.toNatClampNeg a6)) m hg
    · replace hg := (if_pos hc).symm.trans hg
      refine rf_goto C 111 172 (by decide +kernel) ?_
      refine rf_few [0, 1, 2, 3, 4, 5, 6, 7] rfl ?_
      exact s_X14_determinant__258_172 C hE hr12 hr45 a1 a2 a4 a5 a6 a7 m hg
theorem s_X14_determinant__258_45 {w : rf_w} {K : rf_K} {r : rf_m} (C : rf_Ctx 14 cX14_determinant 10 3 (rf_sh w) K) (hE : rf_End none K (rf_sh w) 0 0 none (rf_MM w r)) {rec12 : Int32 → Int32 → Int32 → Int32 → rf_m → Option (rf_m)} (hr12 : ∀ (a1 : Int32) (a2 : Int32) (a4 : Int32) (a5 : Int32) (m : rf_m), rec12 a1 a2 a4 a5 m = some r → rf_V 10 (rf_sh w) K 0 0 12 ([(0, .ref 206), (1, .int a1), (2, .int a2), (3, .ref 258), (4, .int a4), (5, .int a5)], [], rf_MM w m)) (n : Nat) : ∀ (a1 : Int32) (a2 : Int32) (a4 : Int32) (a5 : Int32) (a6 : Int32) (a7 : Int32) (m : rf_m), g_X14_determinant__258_45 w rec12 n a1 a2 a4 a5 a6 a7 m = some r → rf_V 10 (rf_sh w) K 0 0 45 ([(0, .ref 206), (1, .int a1), (2, .int a2), (3, .ref 258), (4, .int a4), (5, .int a5), (6, .int a6), (7, .int a7)], [], rf_MM w m) := by
  induction n with
  | zero => intro a1 a2 a4 a5 a6 a7 m hg; cases hg
  | succ n ih => intro a1 a2 a4 a5 a6 a7 m hg; exact s_X14_determinant__258_45_b C hE hr12 ih a1 a2 a4 a5 a6 a7 m hg
theorem s_X14_determinant__258_12_b {w : rf_w} {K : rf_K} {r : rf_m} (C : rf_Ctx 14 cX14_determinant 10 3 (rf_sh w) K) (hE : rf_End none K (rf_sh w) 0 0 none (rf_MM w r)) {rec12 : Int32 → Int32 → Int32 → Int32 → rf_m → Option (rf_m)} (hr12 : ∀ (a1 : Int32) (a2 : Int32) (a4 : Int32) (a5 : Int32) (m : rf_m), rec12 a1 a2 a4 a5 m = some r → rf_V 10 (rf_sh w) K 0 0 12 ([(0, .ref 206), (1, .int a1), (2, .int a2), (3, .ref 258), (4, .int a4), (5, .int a5)], [], rf_MM w m)) (a1 : Int32) (a2 : Int32) (a4 : Int32) (a5 : Int32) (m : rf_m) (hg : g_X14_determinant__258_12_b w rec12 a1 a2 a4 a5 m = some r) : rf_V 10 (rf_sh w) K 0 0 12 ([(0, .ref 206), (1, .int a1), (2, .int a2), (3, .ref 258), (4, .int a4), (5, .int a5)], [], rf_MM w m) := by
  unfold g_X14_determinant__258_12_b at hg
  refine rf_seg C [(.iload 5, 2), (.iconst 1, 1), (.iload 1, 1), (.ishl, 1)] (pc' := 17) (S' := ([(0, .ref 206), (1, .int a1), (2, .int a2), (3, .ref 258), (4, .int a4), (5, .int a5)], [.int (1 <<< (a1 &&& 31)), .int a5], rf_MM w m)) (by decide +kernel) rfl trivial ?_
  refine rf_icmp_ge C 167 184 (by decide +kernel) (fun hc => ?_) (fun hc => ?_)
  · replace hg := (if_pos hc).symm.trans hg
    refine rf_seg C [(.aload 3, 1), (.iload 4, 2), (.aload 0, 1), (.invokeinterface 14 79, 3), (.iconst 6, 2), (.iconst 1, 1), (.iload 1, 1), (.ishl, 1), (.iconst 1, 1), (.isub, 1), (.imul, 1)] (pc' := 199) (S' := ([(0, .ref 206), (1, .int a1), (2, .int a2), (3, .ref 258), (4, .int a4), (5, .int a5)], [.int (6 * ((1 <<< (a1 &&& 31)) - 1)), .ref 256, .int a4, .ref 258], rf_MM w m)) (by decide +kernel) rfl trivial ?_
    obtain ⟨m0, hc0, hg⟩ := rf_bv_some hg
    refine rf_calls C rf_fit0 j_X14_copies__258_256 (As := [.ref 258, .int a4, .ref 256, .int (6 * ((1 <<< (a1 &&& 31)) - 1))]) (rest := []) mw_X14_copies__258_256 (c_X14_copies__258_256 hc0) (by decide) lk_14_744 rfl rfl (Nat.le_of_ble_eq_true rfl) (by decide +kernel) ?_
    show rf_V 10 (rf_sh w) K 0 0 202 ([(0, .ref 206), (1, .int a1), (2, .int a2), (3, .ref 258), (4, .int a4), (5, .int a5)], [], rf_MM w m0)
    obtain rfl := Option.some.inj hg
    exact rf_vret C hE (by decide +kernel)
  · replace hg := (if_neg hc).symm.trans hg
    refine rf_seg C [(.aload 0, 1), (.invokeinterface 14 79, 3), (.iconst 6, 2), (.iload 5, 2), (.imul, 1), (.goto_w 0, 1)] (pc' := 30) (S' := ([(0, .ref 206), (1, .int a1), (2, .int a2), (3, .ref 258), (4, .int a4), (5, .int a5)], [.long 0, .int (6 * a5), .ref 256], rf_MM w m)) (by decide +kernel) rfl trivial ?_
    obtain ⟨m1, hc1, hg⟩ := rf_bv_some hg
    refine rf_calls C rf_fit0 j_X14_set__256 (As := [.ref 256, .int (6 * a5), .long 0]) (rest := []) mw_X14_set__256 (c_X14_set__256 hc1) (by decide) lk_14_740 rfl rfl (Nat.le_of_ble_eq_true rfl) (by decide +kernel) ?_
    show rf_V 10 (rf_sh w) K 0 0 33 ([(0, .ref 206), (1, .int a1), (2, .int a2), (3, .ref 258), (4, .int a4), (5, .int a5)], [], rf_MM w m1)
    refine rf_seg C [(.iload 5, 2)] (pc' := 35) (S' := ([(0, .ref 206), (1, .int a1), (2, .int a2), (3, .ref 258), (4, .int a4), (5, .int a5)], [.int a5], rf_MM w m1)) (by decide +kernel) rfl trivial ?_
    obtain ⟨y2, m2, hc2, hg⟩ := rf_b_some hg
    refine rf_calls C rf_fit0 j_X14_bits (As := [.int a5]) (rest := []) mw_X14_bits (c_X14_bits hc2) (by decide) lk_14_767 rfl rfl (Nat.le_of_ble_eq_true rfl) (by decide +kernel) ?_
    show rf_V 10 (rf_sh w) K 0 0 38 ([(0, .ref 206), (1, .int a1), (2, .int a2), (3, .ref 258), (4, .int a4), (5, .int a5)], [.int y2], rf_MM w m2)
    refine rf_seg C [(.iconst 1, 1), (.isub, 1), (.istore 6, 2), (.iconst 0, 1), (.istore 7, 2)] (pc' := 45) (S' := ([(7, .int 0), (6, .int (y2 - 1)), (0, .ref 206), (1, .int a1), (2, .int a2), (3, .ref 258), (4, .int a4), (5, .int a5)], [], rf_MM w m2)) (by decide +kernel) rfl trivial ?_
    refine rf_few [2, 3, 4, 5, 6, 7, 1, 0] rfl ?_
    exact s_X14_determinant__258_45 C hE hr12 rf_fuel a1 a2 a4 a5 (y2 - 1) 0 m2 hg
theorem s_X14_determinant__258_12 {w : rf_w} {K : rf_K} {r : rf_m} (C : rf_Ctx 14 cX14_determinant 10 3 (rf_sh w) K) (hE : rf_End none K (rf_sh w) 0 0 none (rf_MM w r)) (n : Nat) : ∀ (a1 : Int32) (a2 : Int32) (a4 : Int32) (a5 : Int32) (m : rf_m), g_X14_determinant__258_12 w n a1 a2 a4 a5 m = some r → rf_V 10 (rf_sh w) K 0 0 12 ([(0, .ref 206), (1, .int a1), (2, .int a2), (3, .ref 258), (4, .int a4), (5, .int a5)], [], rf_MM w m) := by
  induction n with
  | zero => intro a1 a2 a4 a5 m hg; cases hg
  | succ n ih => intro a1 a2 a4 a5 m hg; exact s_X14_determinant__258_12_b C hE ih a1 a2 a4 a5 m hg
theorem c_X14_determinant__258 {w : rf_w} {m : rf_m} {a1 : Int32} {a2 : Int32} {a4 : Int32} {r : rf_m} (hg : g_X14_determinant__258 w m a1 a2 a4 = some r) : rf_Con j_X14_determinant__258 3 (rf_sh w) [.ref 206, .int a1, .int a2, .ref 258, .int a4] (rf_MM w m) none (rf_MM w r) := by
  refine rf_con j_X14_determinant__258 3 ⟨by decide +kernel, rfl, Nat.le_of_ble_eq_true rfl⟩ (fun K C hE => ?_)
  unfold g_X14_determinant__258 at hg
  show rf_V 10 (rf_sh w) K 0 0 0 ([(0, .ref 206), (1, .int a1), (2, .int a2), (3, .ref 258), (4, .int a4)], [], rf_MM w m)
  refine rf_seg C [(.aload 0, 1), (.invokeinterface 14 79, 3), (.iconst 0, 1), (.goto_w 1, 1)] (pc' := 6) (S' := ([(0, .ref 206), (1, .int a1), (2, .int a2), (3, .ref 258), (4, .int a4)], [.long 1, .int 0, .ref 256], rf_MM w m)) (by decide +kernel) rfl trivial ?_
  obtain ⟨m0, hc0, hg⟩ := rf_bv_some hg
  refine rf_calls C rf_fit0 j_X14_set__256 (As := [.ref 256, .int 0, .long 1]) (rest := []) mw_X14_set__256 (c_X14_set__256 hc0) (by decide) lk_14_740 rfl rfl (Nat.le_of_ble_eq_true rfl) (by decide +kernel) ?_
  show rf_V 10 (rf_sh w) K 0 0 9 ([(0, .ref 206), (1, .int a1), (2, .int a2), (3, .ref 258), (4, .int a4)], [], rf_MM w m0)
  refine rf_seg C [(.iconst 1, 1), (.istore 5, 2)] (pc' := 12) (S' := ([(5, .int 1), (0, .ref 206), (1, .int a1), (2, .int a2), (3, .ref 258), (4, .int a4)], [], rf_MM w m0)) (by decide +kernel) rfl trivial ?_
  refine rf_few [1, 2, 3, 4, 5, 0] rfl ?_
  exact s_X14_determinant__258_12 C hE rf_fuel a1 a2 a4 1 m0 hg
-- X14_times__257_258
abbrev j_X14_times__257_258 : rf_J := (14, yX14_times, cX14_times, 10, none)
theorem mw_X14_times__257_258 : rf_ms j_X14_times__257_258 5 := ⟨⟨rf_mem 71 (by decide +kernel), rf_mem 0 (by decide +kernel), rf_mem 71 (by decide +kernel)⟩, by decide +kernel, by decide⟩
def g_X14_times__257_258_14_b (w : rf_w) (rec14 : Int32 → Int32 → Int32 → Int64 → Int64 → Int32 → rf_m → Option (rf_m)) (a1 : Int32) (a3 : Int32) (a4 : Int32) (a5 : Int64) (a7 : Int64) (a9 : Int32) (m : rf_m) : Option (rf_m) := (if 6 ≤ a9 then (if (0 : Int32) ≤ a4 then some m else rf_bv (g_X14_turns__257 w m a1) fun m0 => some m0) else rf_g (rf_in (a3 + a9) 36) (rf_vl (a7 + (((Int32.toInt64 (m.1 258 (Int32.toNatClampNeg (a3 + a9)))) &&& 4294967295) * a5)) fun x2 => rf_g (rf_in (a1 + a9) 6) (rf_vl ((Int64.toUInt64 x2 >>> ((Int32.toInt64 32).toUInt64 &&& Int64.toUInt64 63)).toInt64) fun x4 => rec14 a1 a3 a4 a5 x4 (a9 + 1) (rf_i m 257 (Int32.toNatClampNeg (a1 + a9)) (Int64.toInt32 x2)))))
def g_X14_times__257_258_14 (w : rf_w) : Nat → Int32 → Int32 → Int32 → Int64 → Int64 → Int32 → rf_m → Option (rf_m)
  | 0, _, _, _, _, _, _, _ => none
  | n + 1, a1, a3, a4, a5, a7, a9, m => g_X14_times__257_258_14_b w (g_X14_times__257_258_14 w n) a1 a3 a4 a5 a7 a9 m
def g_X14_times__257_258 (w : rf_w) (m : rf_m) (a1 : Int32) (a3 : Int32) (a4 : Int32) : Option (rf_m) := rf_b (g_absL w m (Int32.toInt64 a4)) fun y0 m0 => g_X14_times__257_258_14 w rf_fuel a1 a3 a4 y0 0 0 m0
theorem s_X14_times__257_258_14_b {w : rf_w} {K : rf_K} {r : rf_m} (C : rf_Ctx 14 cX14_times 10 2 (rf_sh w) K) (hE : rf_End none K (rf_sh w) 0 0 none (rf_MM w r)) {rec14 : Int32 → Int32 → Int32 → Int64 → Int64 → Int32 → rf_m → Option (rf_m)} (hr14 : ∀ (a1 : Int32) (a3 : Int32) (a4 : Int32) (a5 : Int64) (a7 : Int64) (a9 : Int32) (m : rf_m), rec14 a1 a3 a4 a5 a7 a9 m = some r → rf_V 10 (rf_sh w) K 0 0 14 ([(0, .ref 257), (1, .int a1), (2, .ref 258), (3, .int a3), (4, .int a4), (5, .long a5), (7, .long a7), (9, .int a9)], [], rf_MM w m)) (a1 : Int32) (a3 : Int32) (a4 : Int32) (a5 : Int64) (a7 : Int64) (a9 : Int32) (m : rf_m) (hg : g_X14_times__257_258_14_b w rec14 a1 a3 a4 a5 a7 a9 m = some r) : rf_V 10 (rf_sh w) K 0 0 14 ([(0, .ref 257), (1, .int a1), (2, .ref 258), (3, .int a3), (4, .int a4), (5, .long a5), (7, .long a7), (9, .int a9)], [], rf_MM w m) := by
  unfold g_X14_times__257_258_14_b at hg
  refine rf_seg C [(.iload 9, 2), (.iconst 6, 2)] (pc' := 18) (S' := ([(0, .ref 257), (1, .int a1), (2, .ref 258), (3, .int a3), (4, .int a4), (5, .long a5), (7, .long a7), (9, .int a9)], [.int 6, .int a9], rf_MM w m)) (by decide +kernel) rfl trivial ?_
  refine rf_icmp_ge C 44 62 (by decide +kernel) (fun hc => ?_) (fun hc => ?_)
  · replace hg := (if_pos hc).symm.trans hg
    refine rf_seg C [(.iload 4, 2)] (pc' := 64) (S' := ([(0, .ref 257), (1, .int a1), (2, .ref 258), (3, .int a3), (4, .int a4), (5, .long a5), (7, .long a7), (9, .int a9)], [.int a4], rf_MM w m)) (by decide +kernel) rfl trivial ?_
    refine rf_if_ge C 8 72 (by decide +kernel) (fun hc => ?_) (fun hc => ?_)
    · replace hg := (if_pos hc).symm.trans hg
      obtain rfl := Option.some.inj hg
      exact rf_vret C hE (by decide +kernel)
    · replace hg := (if_neg hc).symm.trans hg
      refine rf_seg C [(.aload 0, 1), (.iload 1, 1)] (pc' := 69) (S' := ([(0, .ref 257), (1, .int a1), (2, .ref 258), (3, .int a3), (4, .int a4), (5, .long a5), (7, .long a7), (9, .int a9)], [.int a1, .ref 257], rf_MM w m)) (by decide +kernel) rfl trivial ?_
      obtain ⟨m0, hc0, hg⟩ := rf_bv_some hg
      refine rf_calls C rf_fit0 j_X14_turns__257 (As := [.ref 257, .int a1]) (rest := []) mw_X14_turns__257 (c_X14_turns__257 hc0) (by decide) lk_14_736 rfl rfl (Nat.le_of_ble_eq_true rfl) (by decide +kernel) ?_
      show rf_V 10 (rf_sh w) K 0 0 72 ([(0, .ref 257), (1, .int a1), (2, .ref 258), (3, .int a3), (4, .int a4), (5, .long a5), (7, .long a7), (9, .int a9)], [], rf_MM w m0)
      obtain rfl := Option.some.inj hg
      exact rf_vret C hE (by decide +kernel)
  · replace hg := (if_neg hc).symm.trans hg
    obtain ⟨q1, hg⟩ := rf_g_some hg
    refine rf_seg C [(.lload 7, 2), (.aload 2, 1), (.iload 3, 1), (.iload 9, 2), (.iadd, 1), (.iaload, 1), (.i2l, 1), (.goto_w 4294967295, 3), (.land, 1), (.lload 5, 2), (.lmul, 1), (.ladd, 1)] (pc' := 38) (S' := ([(0, .ref 257), (1, .int a1), (2, .ref 258), (3, .int a3), (4, .int a4), (5, .long a5), (7, .long a7), (9, .int a9)], [.long (a7 + (((Int32.toInt64 (m.1 258 (Int32.toNatClampNeg (a3 + a9)))) &&& 4294967295) * a5))], rf_MM w m)) (by decide +kernel) rfl (rf_in_of q1) ?_
    obtain ⟨x2, hx2, hg⟩ := rf_vl_some hg
    refine rf_vl_top hx2 ?_
    obtain ⟨q3, hg⟩ := rf_g_some hg
    refine rf_seg C [(.lstore 7, 2), (.aload 0, 1), (.iload 1, 1), (.iload 9, 2), (.iadd, 1), (.lload 7, 2), (.l2i, 1), (.iastore, 1), (.lload 7, 2), (.iconst 32, 2), (.lushr, 1)] (pc' := 54) (S' := ([(7, .long x2), (0, .ref 257), (1, .int a1), (2, .ref 258), (3, .int a3), (4, .int a4), (5, .long a5), (9, .int a9)], [.long ((Int64.toUInt64 x2 >>> ((Int32.toInt64 32).toUInt64 &&& Int64.toUInt64 63)).toInt64)], rf_MM w (rf_i m 257 (Int32.toNatClampNeg (a1 + a9)) (Int64.toInt32 x2)))) (by decide +kernel) rfl (rf_in_of q3) ?_
    obtain ⟨x4, hx4, hg⟩ := rf_vl_some hg
    refine rf_vl_top hx4 ?_
    refine rf_seg C [(.lstore 7, 2), (.iinc 9 1, 3)] (pc' := 59) (S' := ([(9, .int (a9 + 1)), (7, .long x4), (0, .ref 257), (1, .int a1), (2, .ref 258), (3, .int a3), (4, .int a4), (5, .long a5)], [], rf_MM w (rf_i m 257 (Int32.toNatClampNeg (a1 + a9)) (Int64.toInt32 x2)))) (by decide +kernel) rfl trivial ?_
    refine rf_goto C (-45) 14 (by decide +kernel) ?_
    refine rf_few [2, 3, 4, 5, 6, 7, 1, 0] rfl ?_
    exact hr14 a1 a3 a4 a5 x4 (a9 + 1) (rf_i m 257 (Int32.toNatClampNeg (a1 + a9)) (Int64.toInt32 x2)) hg
theorem s_X14_times__257_258_14 {w : rf_w} {K : rf_K} {r : rf_m} (C : rf_Ctx 14 cX14_times 10 2 (rf_sh w) K) (hE : rf_End none K (rf_sh w) 0 0 none (rf_MM w r)) (n : Nat) : ∀ (a1 : Int32) (a3 : Int32) (a4 : Int32) (a5 : Int64) (a7 : Int64) (a9 : Int32) (m : rf_m), g_X14_times__257_258_14 w n a1 a3 a4 a5 a7 a9 m = some r → rf_V 10 (rf_sh w) K 0 0 14 ([(0, .ref 257), (1, .int a1), (2, .ref 258), (3, .int a3), (4, .int a4), (5, .long a5), (7, .long a7), (9, .int a9)], [], rf_MM w m) := by
  induction n with
  | zero => intro a1 a3 a4 a5 a7 a9 m hg; cases hg
  | succ n ih => intro a1 a3 a4 a5 a7 a9 m hg; exact s_X14_times__257_258_14_b C hE ih a1 a3 a4 a5 a7 a9 m hg
theorem c_X14_times__257_258 {w : rf_w} {m : rf_m} {a1 : Int32} {a3 : Int32} {a4 : Int32} {r : rf_m} (hg : g_X14_times__257_258 w m a1 a3 a4 = some r) : rf_Con j_X14_times__257_258 2 (rf_sh w) [.ref 257, .int a1, .ref 258, .int a3, .int a4] (rf_MM w m) none (rf_MM w r) := by
  refine rf_con j_X14_times__257_258 2 ⟨by decide +kernel, rfl, Nat.le_of_ble_eq_true rfl⟩ (fun K C hE => ?_)
  unfold g_X14_times__257_258 at hg
  show rf_V 10 (rf_sh w) K 0 0 0 ([(0, .ref 257), (1, .int a1), (2, .ref 258), (3, .int a3), (4, .int a4)], [], rf_MM w m)
  refine rf_seg C [(.iload 4, 2), (.i2l, 1)] (pc' := 3) (S' := ([(0, .ref 257), (1, .int a1), (2, .ref 258), (3, .int a3), (4, .int a4)], [.long (Int32.toInt64 a4)], rf_MM w m)) (by decide +kernel) rfl trivial ?_
  obtain ⟨y0, m0, hc0, hg⟩ := rf_b_some hg
  refine rf_calls C rf_fit0 j_absL (As := [.long (Int32.toInt64 a4)]) (rest := []) mw_absL (c_absL hc0) (by decide) lk_14_733 rfl rfl (Nat.le_of_ble_eq_true rfl) (by decide +kernel) ?_
  show rf_V 10 (rf_sh w) K 0 0 6 ([(0, .ref 257), (1, .int a1), (2, .ref 258), (3, .int a3), (4, .int a4)], [.long y0], rf_MM w m0)
  refine rf_seg C [(.lstore 5, 2), (.goto_w 0, 1), (.lstore 7, 2), (.iconst 0, 1), (.istore 9, 2)] (pc' := 14) (S' := ([(9, .int 0), (7, .long 0), (5, .long y0), (0, .ref 257), (1, .int a1), (2, .ref 258), (3, .int a3), (4, .int a4)], [], rf_MM w m0)) (by decide +kernel) rfl trivial ?_
  refine rf_few [3, 4, 5, 6, 7, 2, 1, 0] rfl ?_
  exact s_X14_times__257_258_14 C hE rf_fuel a1 a3 a4 y0 0 0 m0 hg
-- X14_adds__252_257
abbrev j_X14_adds__252_257 : rf_J := (14, yX14_adds, cX14_adds, 7, none)
theorem mw_X14_adds__252_257 : rf_ms j_X14_adds__252_257 4 := ⟨⟨rf_mem 71 (by decide +kernel), rf_mem 0 (by decide +kernel), rf_mem 71 (by decide +kernel)⟩, by decide +kernel, by decide⟩
def g_X14_adds__252_257_6_b (w : rf_w) (rec6 : Int32 → Int32 → Int64 → Int32 → rf_m → Option (rf_m)) (a1 : Int32) (a3 : Int32) (a4 : Int64) (a6 : Int32) (m : rf_m) : Option (rf_m) := (if 6 ≤ a6 then some m else rf_g (rf_in (a1 + a6) 6) (rf_g (rf_in (a3 + a6) 6) (rf_vl (a4 + (((Int32.toInt64 (m.1 252 (Int32.toNatClampNeg (a1 + a6)))) &&& 4294967295) + ((Int32.toInt64 (m.1 257 (Int32.toNatClampNeg (a3 + a6)))) &&& 4294967295))) fun x2 => rf_g (rf_in (a1 + a6) 6) (rf_vl ((Int64.toUInt64 x2 >>> ((Int32.toInt64 32).toUInt64 &&& Int64.toUInt64 63)).toInt64) fun x4 => rec6 a1 a3 x4 (a6 + 1) (rf_i m 252 (Int32.toNatClampNeg (a1 + a6)) (Int64.toInt32 x2))))))
def g_X14_adds__252_257_6 (w : rf_w) : Nat → Int32 → Int32 → Int64 → Int32 → rf_m → Option (rf_m)
  | 0, _, _, _, _, _ => none
  | n + 1, a1, a3, a4, a6, m => g_X14_adds__252_257_6_b w (g_X14_adds__252_257_6 w n) a1 a3 a4 a6 m
def g_X14_adds__252_257 (w : rf_w) (m : rf_m) (a1 : Int32) (a3 : Int32) : Option (rf_m) := g_X14_adds__252_257_6 w rf_fuel a1 a3 0 0 m
theorem s_X14_adds__252_257_6_b {w : rf_w} {K : rf_K} {r : rf_m} (C : rf_Ctx 14 cX14_adds 7 1 (rf_sh w) K) (hE : rf_End none K (rf_sh w) 0 0 none (rf_MM w r)) {rec6 : Int32 → Int32 → Int64 → Int32 → rf_m → Option (rf_m)} (hr6 : ∀ (a1 : Int32) (a3 : Int32) (a4 : Int64) (a6 : Int32) (m : rf_m), rec6 a1 a3 a4 a6 m = some r → rf_V 7 (rf_sh w) K 0 0 6 ([(0, .ref 252), (1, .int a1), (2, .ref 257), (3, .int a3), (4, .long a4), (6, .int a6)], [], rf_MM w m)) (a1 : Int32) (a3 : Int32) (a4 : Int64) (a6 : Int32) (m : rf_m) (hg : g_X14_adds__252_257_6_b w rec6 a1 a3 a4 a6 m = some r) : rf_V 7 (rf_sh w) K 0 0 6 ([(0, .ref 252), (1, .int a1), (2, .ref 257), (3, .int a3), (4, .long a4), (6, .int a6)], [], rf_MM w m) := by
  unfold g_X14_adds__252_257_6_b at hg
  refine rf_seg C [(.iload 6, 2), (.iconst 6, 2)] (pc' := 10) (S' := ([(0, .ref 252), (1, .int a1), (2, .ref 257), (3, .int a3), (4, .long a4), (6, .int a6)], [.int 6, .int a6], rf_MM w m)) (by decide +kernel) rfl trivial ?_
  refine rf_icmp_ge C 53 63 (by decide +kernel) (fun hc => ?_) (fun hc => ?_)
  · replace hg := (if_pos hc).symm.trans hg
    obtain rfl := Option.some.inj hg
    exact rf_vret C hE (by decide +kernel)
  · replace hg := (if_neg hc).symm.trans hg
    obtain ⟨q0, hg⟩ := rf_g_some hg
    obtain ⟨q1, hg⟩ := rf_g_some hg
    refine rf_seg C [(.lload 4, 2), (.aload 0, 1), (.iload 1, 1), (.iload 6, 2), (.iadd, 1), (.iaload, 1), (.i2l, 1), (.goto_w 4294967295, 3), (.land, 1), (.aload 2, 1), (.iload 3, 1), (.iload 6, 2), (.iadd, 1), (.iaload, 1), (.i2l, 1), (.goto_w 4294967295, 3), (.land, 1), (.ladd, 1), (.ladd, 1)] (pc' := 39) (S' := ([(0, .ref 252), (1, .int a1), (2, .ref 257), (3, .int a3), (4, .long a4), (6, .int a6)], [.long (a4 + (((Int32.toInt64 (m.1 252 (Int32.toNatClampNeg (a1 + a6)))) &&& 4294967295) + ((Int32.toInt64 (m.1 257 (Int32.toNatClampNeg (a3 + a6)))) &&& 4294967295)))], rf_MM w m)) (by decide +kernel) rfl (by exact ⟨(rf_in_of q0), (rf_in_of q1)⟩) ?_
    obtain ⟨x2, hx2, hg⟩ := rf_vl_some hg
    refine rf_vl_top hx2 ?_
    obtain ⟨q3, hg⟩ := rf_g_some hg
    refine rf_seg C [(.lstore 4, 2), (.aload 0, 1), (.iload 1, 1), (.iload 6, 2), (.iadd, 1), (.lload 4, 2), (.l2i, 1), (.iastore, 1), (.lload 4, 2), (.iconst 32, 2), (.lushr, 1)] (pc' := 55) (S' := ([(4, .long x2), (0, .ref 252), (1, .int a1), (2, .ref 257), (3, .int a3), (6, .int a6)], [.long ((Int64.toUInt64 x2 >>> ((Int32.toInt64 32).toUInt64 &&& Int64.toUInt64 63)).toInt64)], rf_MM w (rf_i m 252 (Int32.toNatClampNeg (a1 + a6)) (Int64.toInt32 x2)))) (by decide +kernel) rfl (rf_in_of q3) ?_
    obtain ⟨x4, hx4, hg⟩ := rf_vl_some hg
    refine rf_vl_top hx4 ?_
    refine rf_seg C [(.lstore 4, 2), (.iinc 6 1, 3)] (pc' := 60) (S' := ([(6, .int (a6 + 1)), (4, .long x4), (0, .ref 252), (1, .int a1), (2, .ref 257), (3, .int a3)], [], rf_MM w (rf_i m 252 (Int32.toNatClampNeg (a1 + a6)) (Int64.toInt32 x2)))) (by decide +kernel) rfl trivial ?_
    refine rf_goto C (-54) 6 (by decide +kernel) ?_
    refine rf_few [2, 3, 4, 5, 1, 0] rfl ?_
    exact hr6 a1 a3 x4 (a6 + 1) (rf_i m 252 (Int32.toNatClampNeg (a1 + a6)) (Int64.toInt32 x2)) hg
theorem s_X14_adds__252_257_6 {w : rf_w} {K : rf_K} {r : rf_m} (C : rf_Ctx 14 cX14_adds 7 1 (rf_sh w) K) (hE : rf_End none K (rf_sh w) 0 0 none (rf_MM w r)) (n : Nat) : ∀ (a1 : Int32) (a3 : Int32) (a4 : Int64) (a6 : Int32) (m : rf_m), g_X14_adds__252_257_6 w n a1 a3 a4 a6 m = some r → rf_V 7 (rf_sh w) K 0 0 6 ([(0, .ref 252), (1, .int a1), (2, .ref 257), (3, .int a3), (4, .long a4), (6, .int a6)], [], rf_MM w m) := by
  induction n with
  | zero => intro a1 a3 a4 a6 m hg; cases hg
  | succ n ih => intro a1 a3 a4 a6 m hg; exact s_X14_adds__252_257_6_b C hE ih a1 a3 a4 a6 m hg
theorem c_X14_adds__252_257 {w : rf_w} {m : rf_m} {a1 : Int32} {a3 : Int32} {r : rf_m} (hg : g_X14_adds__252_257 w m a1 a3 = some r) : rf_Con j_X14_adds__252_257 1 (rf_sh w) [.ref 252, .int a1, .ref 257, .int a3] (rf_MM w m) none (rf_MM w r) := by
  refine rf_con j_X14_adds__252_257 1 ⟨by decide +kernel, rfl, Nat.le_of_ble_eq_true rfl⟩ (fun K C hE => ?_)
  unfold g_X14_adds__252_257 at hg
  show rf_V 7 (rf_sh w) K 0 0 0 ([(0, .ref 252), (1, .int a1), (2, .ref 257), (3, .int a3)], [], rf_MM w m)
  refine rf_seg C [(.goto_w 0, 1), (.lstore 4, 2), (.iconst 0, 1), (.istore 6, 2)] (pc' := 6) (S' := ([(6, .int 0), (4, .long 0), (0, .ref 252), (1, .int a1), (2, .ref 257), (3, .int a3)], [], rf_MM w m)) (by decide +kernel) rfl trivial ?_
  refine rf_few [2, 3, 4, 5, 1, 0] rfl ?_
  exact s_X14_adds__252_257_6 C hE rf_fuel a1 a3 0 0 m hg
-- X14_copies__260_256
abbrev j_X14_copies__260_256 : rf_J := (14, yX14_copies, cX14_copies, 5, none)
theorem mw_X14_copies__260_256 : rf_ms j_X14_copies__260_256 4 := ⟨⟨rf_mem 71 (by decide +kernel), rf_mem 0 (by decide +kernel), rf_mem 71 (by decide +kernel)⟩, by decide +kernel, by decide⟩
def g_X14_copies__260_256_3_b (w : rf_w) (rec3 : Int32 → Int32 → Int32 → rf_m → Option (rf_m)) (a1 : Int32) (a3 : Int32) (a4 : Int32) (m : rf_m) : Option (rf_m) := (if 6 ≤ a4 then some m else rf_g (rf_in (a3 + a4) 384) (rf_g (rf_in (a1 + a4) 6) (rec3 a1 a3 (a4 + 1) (rf_i m 260 (Int32.toNatClampNeg (a1 + a4)) (m.1 256 (Int32.toNatClampNeg (a3 + a4)))))))
def g_X14_copies__260_256_3 (w : rf_w) : Nat → Int32 → Int32 → Int32 → rf_m → Option (rf_m)
  | 0, _, _, _, _ => none
  | n + 1, a1, a3, a4, m => g_X14_copies__260_256_3_b w (g_X14_copies__260_256_3 w n) a1 a3 a4 m
def g_X14_copies__260_256 (w : rf_w) (m : rf_m) (a1 : Int32) (a3 : Int32) : Option (rf_m) := g_X14_copies__260_256_3 w rf_fuel a1 a3 0 m
theorem s_X14_copies__260_256_3_b {w : rf_w} {K : rf_K} {r : rf_m} (C : rf_Ctx 14 cX14_copies 5 1 (rf_sh w) K) (hE : rf_End none K (rf_sh w) 0 0 none (rf_MM w r)) {rec3 : Int32 → Int32 → Int32 → rf_m → Option (rf_m)} (hr3 : ∀ (a1 : Int32) (a3 : Int32) (a4 : Int32) (m : rf_m), rec3 a1 a3 a4 m = some r → rf_V 5 (rf_sh w) K 0 0 3 ([(0, .ref 260), (1, .int a1), (2, .ref 256), (3, .int a3), (4, .int a4)], [], rf_MM w m)) (a1 : Int32) (a3 : Int32) (a4 : Int32) (m : rf_m) (hg : g_X14_copies__260_256_3_b w rec3 a1 a3 a4 m = some r) : rf_V 5 (rf_sh w) K 0 0 3 ([(0, .ref 260), (1, .int a1), (2, .ref 256), (3, .int a3), (4, .int a4)], [], rf_MM w m) := by
  unfold g_X14_copies__260_256_3_b at hg
  refine rf_seg C [(.iload 4, 2), (.iconst 6, 2)] (pc' := 7) (S' := ([(0, .ref 260), (1, .int a1), (2, .ref 256), (3, .int a3), (4, .int a4)], [.int 6, .int a4], rf_MM w m)) (by decide +kernel) rfl trivial ?_
  refine rf_icmp_ge C 21 28 (by decide +kernel) (fun hc => ?_) (fun hc => ?_)
  · replace hg := (if_pos hc).symm.trans hg
    obtain rfl := Option.some.inj hg
    exact rf_vret C hE (by decide +kernel)
  · replace hg := (if_neg hc).symm.trans hg
    obtain ⟨q0, hg⟩ := rf_g_some hg
    obtain ⟨q1, hg⟩ := rf_g_some hg
    refine rf_seg C [(.aload 0, 1), (.iload 1, 1), (.iload 4, 2), (.iadd, 1), (.aload 2, 1), (.iload 3, 1), (.iload 4, 2), (.iadd, 1), (.iaload, 1), (.iastore, 1), (.iinc 4 1, 3)] (pc' := 25) (S' := ([(4, .int (a4 + 1)), (0, .ref 260), (1, .int a1), (2, .ref 256), (3, .int a3)], [], rf_MM w (rf_i m 260 (Int32.toNatClampNeg (a1 + a4)) (m.1 256 (Int32.toNatClampNeg (a3 + a4)))))) (by decide +kernel) rfl (by exact ⟨(rf_in_of q0), (rf_in_of q1)⟩) ?_
    refine rf_goto C (-22) 3 (by decide +kernel) ?_
    refine rf_few [1, 2, 3, 4, 0] rfl ?_
    exact hr3 a1 a3 (a4 + 1) (rf_i m 260 (Int32.toNatClampNeg (a1 + a4)) (m.1 256 (Int32.toNatClampNeg (a3 + a4)))) hg
theorem s_X14_copies__260_256_3 {w : rf_w} {K : rf_K} {r : rf_m} (C : rf_Ctx 14 cX14_copies 5 1 (rf_sh w) K) (hE : rf_End none K (rf_sh w) 0 0 none (rf_MM w r)) (n : Nat) : ∀ (a1 : Int32) (a3 : Int32) (a4 : Int32) (m : rf_m), g_X14_copies__260_256_3 w n a1 a3 a4 m = some r → rf_V 5 (rf_sh w) K 0 0 3 ([(0, .ref 260), (1, .int a1), (2, .ref 256), (3, .int a3), (4, .int a4)], [], rf_MM w m) := by
  induction n with
  | zero => intro a1 a3 a4 m hg; cases hg
  | succ n ih => intro a1 a3 a4 m hg; exact s_X14_copies__260_256_3_b C hE ih a1 a3 a4 m hg
theorem c_X14_copies__260_256 {w : rf_w} {m : rf_m} {a1 : Int32} {a3 : Int32} {r : rf_m} (hg : g_X14_copies__260_256 w m a1 a3 = some r) : rf_Con j_X14_copies__260_256 1 (rf_sh w) [.ref 260, .int a1, .ref 256, .int a3] (rf_MM w m) none (rf_MM w r) := by
  refine rf_con j_X14_copies__260_256 1 ⟨by decide +kernel, rfl, Nat.le_of_ble_eq_true rfl⟩ (fun K C hE => ?_)
  unfold g_X14_copies__260_256 at hg
  show rf_V 5 (rf_sh w) K 0 0 0 ([(0, .ref 260), (1, .int a1), (2, .ref 256), (3, .int a3)], [], rf_MM w m)
  refine rf_seg C [(.iconst 0, 1), (.istore 4, 2)] (pc' := 3) (S' := ([(4, .int 0), (0, .ref 260), (1, .int a1), (2, .ref 256), (3, .int a3)], [], rf_MM w m)) (by decide +kernel) rfl trivial ?_
  refine rf_few [1, 2, 3, 4, 0] rfl ?_
  exact s_X14_copies__260_256_3 C hE rf_fuel a1 a3 0 m hg
-- X14_determinant__260
abbrev j_X14_determinant__260 : rf_J := (14, yX14_determinant, cX14_determinant, 10, none)
theorem mw_X14_determinant__260 : rf_mv j_X14_determinant__260 (rf_R 14) 4 := ⟨⟨rf_mem 71 (by decide +kernel), rf_mem 71 (by decide +kernel), rf_mem 0 (by decide +kernel), rf_mem 71 (by decide +kernel)⟩, by decide +kernel, by decide⟩
def g_X14_determinant__260_172 (w : rf_w) (rec12 : Int32 → Int32 → Int32 → Int32 → rf_m → Option (rf_m)) (rec45 : Int32 → Int32 → Int32 → Int32 → Int32 → Int32 → rf_m → Option (rf_m)) (a1 : Int32) (a2 : Int32) (a4 : Int32) (a5 : Int32) (a6 : Int32) (a7 : Int32) (m : rf_m) : Option (rf_m) := rec45 a1 a2 a4 a5 a6 (a7 + 1) m
def g_X14_determinant__260_152 (w : rf_w) (rec12 : Int32 → Int32 → Int32 → Int32 → rf_m → Option (rf_m)) (rec45 : Int32 → Int32 → Int32 → Int32 → Int32 → Int32 → rf_m → Option (rf_m)) (a1 : Int32) (a2 : Int32) (a4 : Int32) (a5 : Int32) (a6 : Int32) (a7 : Int32) (s1 : Int32) (s3 : Int32) (s4 : Int32) (m : rf_m) : Option (rf_m) := rf_bv (g_X14_times__257_256 w m s1 s3 s4) fun m0 => rf_bv (g_X14_adds__256_257 w m0 (6 * a5) 0) fun m1 => g_X14_determinant__260_172 w rec12 rec45 a1 a2 a4 a5 a6 a7 m1
def g_X14_determinant__260_116 (w : rf_w) (rec12 : Int32 → Int32 → Int32 → Int32 → rf_m → Option (rf_m)) (rec45 : Int32 → Int32 → Int32 → Int32 → Int32 → Int32 → rf_m → Option (rf_m)) (a1 : Int32) (a2 : Int32) (a4 : Int32) (a5 : Int32) (a6 : Int32) (a7 : Int32) (a8 : Int32) (s0 : Int32) (m : rf_m) : Option (rf_m) := (if s0 = 0 then g_X14_determinant__260_152 w rec12 rec45 a1 a2 a4 a5 a6 a7 0 (6 * (a5 &&& ((1 <<< (a7 &&& 31)) ^^^ ((-1))))) a8 m else g_X14_determinant__260_152 w rec12 rec45 a1 a2 a4 a5 a6 a7 0 (6 * (a5 &&& ((1 <<< (a7 &&& 31)) ^^^ ((-1))))) (-a8) m)
def g_X14_determinant__260_93 (w : rf_w) (rec12 : Int32 → Int32 → Int32 → Int32 → rf_m → Option (rf_m)) (rec45 : Int32 → Int32 → Int32 → Int32 → Int32 → Int32 → rf_m → Option (rf_m)) (a1 : Int32) (a2 : Int32) (a4 : Int32) (a5 : Int32) (a6 : Int32) (a7 : Int32) (s0 : Int32) (m : rf_m) : Option (rf_m) := rf_b (g_X14_bits w m (a5 >>> ((a7 + 1) &&& 31))) fun y0 m0 => (if (y0 &&& 1) = 1 then g_X14_determinant__260_116 w rec12 rec45 a1 a2 a4 a5 a6 a7 s0 1 m0 else g_X14_determinant__260_116 w rec12 rec45 a1 a2 a4 a5 a6 a7 s0 0 m0)
def g_X14_determinant__260_45_b (w : rf_w) (rec12 : Int32 → Int32 → Int32 → Int32 → rf_m → Option (rf_m)) (rec45 : Int32 → Int32 → Int32 → Int32 → Int32 → Int32 → rf_m → Option (rf_m)) (a1 : Int32) (a2 : Int32) (a4 : Int32) (a5 : Int32) (a6 : Int32) (a7 : Int32) (m : rf_m) : Option (rf_m) := (if a1 ≤ a7 then rec12 a1 a2 a4 (a5 + 1) m else (if ((a5 >>> (a7 &&& 31)) &&& 1) = 0 then g_X14_determinant__260_172 w rec12 rec45 a1 a2 a4 a5 a6 a7 m else (if a7 = a2 then rf_g (rf_in a6 6) (g_X14_determinant__260_93 w rec12 rec45 a1 a2 a4 a5 a6 a7 (m.1 255 (Int32.toNatClampNeg a6)) m) else rf_g (rf_in ((6 * a6) + a7) 36) (g_X14_determinant__260_93 w rec12 rec45 a1 a2 a4 a5 a6 a7 (m.1 254 (Int32.toNatClampNeg ((6 * a6) + a7))) m))))
def g_X14_determinant__260_45 (w : rf_w) (rec12 : Int32 → Int32 → Int32 → Int32 → rf_m → Option (rf_m)) : Nat → Int32 → Int32 → Int32 → Int32 → Int32 → Int32 → rf_m → Option (rf_m)
  | 0, _, _, _, _, _, _, _ => none
  | n + 1, a1, a2, a4, a5, a6, a7, m => g_X14_determinant__260_45_b w rec12 (g_X14_determinant__260_45 w rec12 n) a1 a2 a4 a5 a6 a7 m
def g_X14_determinant__260_12_b (w : rf_w) (rec12 : Int32 → Int32 → Int32 → Int32 → rf_m → Option (rf_m)) (a1 : Int32) (a2 : Int32) (a4 : Int32) (a5 : Int32) (m : rf_m) : Option (rf_m) := (if (1 <<< (a1 &&& 31)) ≤ a5 then rf_bv (g_X14_copies__260_256 w m a4 (6 * ((1 <<< (a1 &&& 31)) - 1))) fun m0 => some m0 else rf_bv (g_X14_set__256 w m (6 * a5) 0) fun m1 => rf_b (g_X14_bits w m1 a5) fun y2 m2 => g_X14_determinant__260_45 w rec12 rf_fuel a1 a2 a4 a5 (y2 - 1) 0 m2)
def g_X14_determinant__260_12 (w : rf_w) : Nat → Int32 → Int32 → Int32 → Int32 → rf_m → Option (rf_m)
  | 0, _, _, _, _, _ => none
  | n + 1, a1, a2, a4, a5, m => g_X14_determinant__260_12_b w (g_X14_determinant__260_12 w n) a1 a2 a4 a5 m
def g_X14_determinant__260 (w : rf_w) (m : rf_m) (a1 : Int32) (a2 : Int32) (a4 : Int32) : Option (rf_m) := rf_bv (g_X14_set__256 w m 0 1) fun m0 => g_X14_determinant__260_12 w rf_fuel a1 a2 a4 1 m0
theorem s_X14_determinant__260_172 {w : rf_w} {K : rf_K} {r : rf_m} (C : rf_Ctx 14 cX14_determinant 10 3 (rf_sh w) K) (hE : rf_End none K (rf_sh w) 0 0 none (rf_MM w r)) {rec12 : Int32 → Int32 → Int32 → Int32 → rf_m → Option (rf_m)} {rec45 : Int32 → Int32 → Int32 → Int32 → Int32 → Int32 → rf_m → Option (rf_m)} (hr12 : ∀ (a1 : Int32) (a2 : Int32) (a4 : Int32) (a5 : Int32) (m : rf_m), rec12 a1 a2 a4 a5 m = some r → rf_V 10 (rf_sh w) K 0 0 12 ([(0, .ref 206), (1, .int a1), (2, .int a2), (3, .ref 260), (4, .int a4), (5, .int a5)], [], rf_MM w m)) (hr45 : ∀ (a1 : Int32) (a2 : Int32) (a4 : Int32) (a5 : Int32) (a6 : Int32) (a7 : Int32) (m : rf_m), rec45 a1 a2 a4 a5 a6 a7 m = some r → rf_V 10 (rf_sh w) K 0 0 45 ([(0, .ref 206), (1, .int a1), (2, .int a2), (3, .ref 260), (4, .int a4), (5, .int a5), (6, .int a6), (7, .int a7)], [], rf_MM w m)) (a1 : Int32) (a2 : Int32) (a4 : Int32) (a5 : Int32) (a6 : Int32) (a7 : Int32) (m : rf_m) (hg : g_X14_determinant__260_172 w rec12 rec45 a1 a2 a4 a5 a6 a7 m = some r) : rf_V 10 (rf_sh w) K 0 0 172 ([(0, .ref 206), (1, .int a1), (2, .int a2), (3, .ref 260), (4, .int a4), (5, .int a5), (6, .int a6), (7, .int a7)], [], rf_MM w m) := by
  unfold g_X14_determinant__260_172 at hg
  refine rf_seg C [(.iinc 7 1, 3)] (pc' := 175) (S' := ([(7, .int (a7 + 1)), (0, .ref 206), (1, .int a1), (2, .int a2), (3, .ref 260), (4, .int a4), (5, .int a5), (6, .int a6)], [], rf_MM w m)) (by decide +kernel) rfl trivial ?_
  refine rf_goto C (-130) 45 (by decide +kernel) ?_
  refine rf_few [1, 2, 3, 4, 5, 6, 7, 0] rfl ?_
  exact hr45 a1 a2 a4 a5 a6 (a7 + 1) m hg
theorem s_X14_determinant__260_152 {w : rf_w} {K : rf_K} {r : rf_m} (C : rf_Ctx 14 cX14_determinant 10 3 (rf_sh w) K) (hE : rf_End none K (rf_sh w) 0 0 none (rf_MM w r)) {rec12 : Int32 → Int32 → Int32 → Int32 → rf_m → Option (rf_m)} {rec45 : Int32 → Int32 → Int32 → Int32 → Int32 → Int32 → rf_m → Option (rf_m)} (hr12 : ∀ (a1 : Int32) (a2 : Int32) (a4 : Int32) (a5 : Int32) (m : rf_m), rec12 a1 a2 a4 a5 m = some r → rf_V 10 (rf_sh w) K 0 0 12 ([(0, .ref 206), (1, .int a1), (2, .int a2), (3, .ref 260), (4, .int a4), (5, .int a5)], [], rf_MM w m)) (hr45 : ∀ (a1 : Int32) (a2 : Int32) (a4 : Int32) (a5 : Int32) (a6 : Int32) (a7 : Int32) (m : rf_m), rec45 a1 a2 a4 a5 a6 a7 m = some r → rf_V 10 (rf_sh w) K 0 0 45 ([(0, .ref 206), (1, .int a1), (2, .int a2), (3, .ref 260), (4, .int a4), (5, .int a5), (6, .int a6), (7, .int a7)], [], rf_MM w m)) (a1 : Int32) (a2 : Int32) (a4 : Int32) (a5 : Int32) (a6 : Int32) (a7 : Int32) (s1 : Int32) (s3 : Int32) (s4 : Int32) (m : rf_m) (hg : g_X14_determinant__260_152 w rec12 rec45 a1 a2 a4 a5 a6 a7 s1 s3 s4 m = some r) : rf_V 10 (rf_sh w) K 0 0 152 ([(0, .ref 206), (1, .int a1), (2, .int a2), (3, .ref 260), (4, .int a4), (5, .int a5), (6, .int a6), (7, .int a7)], [.int s4, .int s3, .ref 256, .int s1, .ref 257], rf_MM w m) := by
  unfold g_X14_determinant__260_152 at hg
  obtain ⟨m0, hc0, hg⟩ := rf_bv_some hg
  refine rf_calls C rf_fit0 j_X14_times__257_256 (As := [.ref 257, .int s1, .ref 256, .int s3, .int s4]) (rest := []) mw_X14_times__257_256 (c_X14_times__257_256 hc0) (by decide) lk_14_770 rfl rfl (Nat.le_of_ble_eq_true rfl) (by decide +kernel) ?_
  show rf_V 10 (rf_sh w) K 0 0 155 ([(0, .ref 206), (1, .int a1), (2, .int a2), (3, .ref 260), (4, .int a4), (5, .int a5), (6, .int a6), (7, .int a7)], [], rf_MM w m0)
  refine rf_seg C [(.aload 0, 1), (.invokeinterface 14 79, 3), (.iconst 6, 2), (.iload 5, 2), (.imul, 1), (.aload 0, 1), (.invokeinterface 14 80, 3), (.iconst 0, 1)] (pc' := 169) (S' := ([(0, .ref 206), (1, .int a1), (2, .int a2), (3, .ref 260), (4, .int a4), (5, .int a5), (6, .int a6), (7, .int a7)], [.int 0, .ref 257, .int (6 * a5), .ref 256], rf_MM w m0)) (by decide +kernel) rfl trivial ?_
  obtain ⟨m1, hc1, hg⟩ := rf_bv_some hg
  refine rf_calls C rf_fit0 j_X14_adds__256_257 (As := [.ref 256, .int (6 * a5), .ref 257, .int 0]) (rest := []) mw_X14_adds__256_257 (c_X14_adds__256_257 hc1) (by decide) lk_14_748 rfl rfl (Nat.le_of_ble_eq_true rfl) (by decide +kernel) ?_
  show rf_V 10 (rf_sh w) K 0 0 172 ([(0, .ref 206), (1, .int a1), (2, .int a2), (3, .ref 260), (4, .int a4), (5, .int a5), (6, .int a6), (7, .int a7)], [], rf_MM w m1)
  refine rf_few [0, 1, 2, 3, 4, 5, 6, 7] rfl ?_
  exact s_X14_determinant__260_172 C hE hr12 hr45 a1 a2 a4 a5 a6 a7 m1 hg
theorem s_X14_determinant__260_116 {w : rf_w} {K : rf_K} {r : rf_m} (C : rf_Ctx 14 cX14_determinant 10 3 (rf_sh w) K) (hE : rf_End none K (rf_sh w) 0 0 none (rf_MM w r)) {rec12 : Int32 → Int32 → Int32 → Int32 → rf_m → Option (rf_m)} {rec45 : Int32 → Int32 → Int32 → Int32 → Int32 → Int32 → rf_m → Option (rf_m)} (hr12 : ∀ (a1 : Int32) (a2 : Int32) (a4 : Int32) (a5 : Int32) (m : rf_m), rec12 a1 a2 a4 a5 m = some r → rf_V 10 (rf_sh w) K 0 0 12 ([(0, .ref 206), (1, .int a1), (2, .int a2), (3, .ref 260), (4, .int a4), (5, .int a5)], [], rf_MM w m)) (hr45 : ∀ (a1 : Int32) (a2 : Int32) (a4 : Int32) (a5 : Int32) (a6 : Int32) (a7 : Int32) (m : rf_m), rec45 a1 a2 a4 a5 a6 a7 m = some r → rf_V 10 (rf_sh w) K 0 0 45 ([(0, .ref 206), (1, .int a1), (2, .int a2), (3, .ref 260), (4, .int a4), (5, .int a5), (6, .int a6), (7, .int a7)], [], rf_MM w m)) (a1 : Int32) (a2 : Int32) (a4 : Int32) (a5 : Int32) (a6 : Int32) (a7 : Int32) (a8 : Int32) (s0 : Int32) (m : rf_m) (hg : g_X14_determinant__260_116 w rec12 rec45 a1 a2 a4 a5 a6 a7 a8 s0 m = some r) : rf_V 10 (rf_sh w) K 0 0 116 ([(0, .ref 206), (1, .int a1), (2, .int a2), (3, .ref 260), (4, .int a4), (5, .int a5), (6, .int a6), (7, .int a7), (8, .int a8)], [.int s0], rf_MM w m) := by
  unfold g_X14_determinant__260_116 at hg
  refine rf_seg C [(.istore 9, 2), (.aload 0, 1), (.invokeinterface 14 80, 3), (.iconst 0, 1), (.aload 0, 1), (.invokeinterface 14 79, 3), (.iconst 6, 2), (.iload 5, 2), (.iconst 1, 1), (.iload 7, 2), (.ishl, 1), (.iconst (-1), 1), (.ixor, 1), (.iand, 1), (.imul, 1), (.iload 9, 2)] (pc' := 141) (S' := ([(9, .int s0), (0, .ref 206), (1, .int a1), (2, .int a2), (3, .ref 260), (4, .int a4), (5, .int a5), (6, .int a6), (7, .int a7), (8, .int a8)], [.int s0, .int (6 * (a5 &&& ((1 <<< (a7 &&& 31)) ^^^ ((-1))))), .ref 256, .int 0, .ref 257], rf_MM w m)) (by decide +kernel) rfl trivial ?_
  refine rf_if_eq C 9 150 (by decide +kernel) (fun hc => ?_) (fun hc => ?_)
  · replace hg := (if_pos hc).symm.trans hg
    refine rf_seg C [(.iload 8, 2)] (pc' := 152) (S' := ([(9, .int s0), (0, .ref 206), (1, .int a1), (2, .int a2), (3, .ref 260), (4, .int a4), (5, .int a5), (6, .int a6), (7, .int a7), (8, .int a8)], [.int a8, .int (6 * (a5 &&& ((1 <<< (a7 &&& 31)) ^^^ ((-1))))), .ref 256, .int 0, .ref 257], rf_MM w m)) (by decide +kernel) rfl trivial ?_
    refine rf_few [1, 2, 3, 4, 5, 6, 7, 8] rfl ?_
    exact s_X14_determinant__260_152 C hE hr12 hr45 a1 a2 a4 a5 a6 a7 0 (6 * (a5 &&& ((1 <<< (a7 &&& 31)) ^^^ ((-1))))) a8 m hg
  · replace hg := (if_neg hc).symm.trans hg
    refine rf_seg C [(.iload 8, 2), (.ineg, 1)] (pc' := 147) (S' := ([(9, .int s0), (0, .ref 206), (1, .int a1), (2, .int a2), (3, .ref 260), (4, .int a4), (5, .int a5), (6, .int a6), (7, .int a7), (8, .int a8)], [.int (-a8), .int (6 * (a5 &&& ((1 <<< (a7 &&& 31)) ^^^ ((-1))))), .ref 256, .int 0, .ref 257], rf_MM w m)) (by decide +kernel) rfl trivial ?_
    refine rf_goto C 5 152 (by decide +kernel) ?_
    refine rf_few [1, 2, 3, 4, 5, 6, 7, 8] rfl ?_
    exact s_X14_determinant__260_152 C hE hr12 hr45 a1 a2 a4 a5 a6 a7 0 (6 * (a5 &&& ((1 <<< (a7 &&& 31)) ^^^ ((-1))))) (-a8) m hg
theorem s_X14_determinant__260_93 {w : rf_w} {K : rf_K} {r : rf_m} (C : rf_Ctx 14 cX14_determinant 10 3 (rf_sh w) K) (hE : rf_End none K (rf_sh w) 0 0 none (rf_MM w r)) {rec12 : Int32 → Int32 → Int32 → Int32 → rf_m → Option (rf_m)} {rec45 : Int32 → Int32 → Int32 → Int32 → Int32 → Int32 → rf_m → Option (rf_m)} (hr12 : ∀ (a1 : Int32) (a2 : Int32) (a4 : Int32) (a5 : Int32) (m : rf_m), rec12 a1 a2 a4 a5 m = some r → rf_V 10 (rf_sh w) K 0 0 12 ([(0, .ref 206), (1, .int a1), (2, .int a2), (3, .ref 260), (4, .int a4), (5, .int a5)], [], rf_MM w m)) (hr45 : ∀ (a1 : Int32) (a2 : Int32) (a4 : Int32) (a5 : Int32) (a6 : Int32) (a7 : Int32) (m : rf_m), rec45 a1 a2 a4 a5 a6 a7 m = some r → rf_V 10 (rf_sh w) K 0 0 45 ([(0, .ref 206), (1, .int a1), (2, .int a2), (3, .ref 260), (4, .int a4), (5, .int a5), (6, .int a6), (7, .int a7)], [], rf_MM w m)) (a1 : Int32) (a2 : Int32) (a4 : Int32) (a5 : Int32) (a6 : Int32) (a7 : Int32) (s0 : Int32) (m : rf_m) (hg : g_X14_determinant__260_93 w rec12 rec45 a1 a2 a4 a5 a6 a7 s0 m = some r) : rf_V 10 (rf_sh w) K 0 0 93 ([(0, .ref 206), (1, .int a1), (2, .int a2), (3, .ref 260), (4, .int a4), (5, .int a5), (6, .int a6), (7, .int a7)], [.int s0], rf_MM w m) := by
  unfold g_X14_determinant__260_93 at hg
  refine rf_seg C [(.istore 8, 2), (.iload 5, 2), (.iload 7, 2), (.iconst 1, 1), (.iadd, 1), (.ishr, 1)] (pc' := 102) (S' := ([(8, .int s0), (0, .ref 206), (1, .int a1), (2, .int a2), (3, .ref 260), (4, .int a4), (5, .int a5), (6, .int a6), (7, .int a7)], [.int (a5 >>> ((a7 + 1) &&& 31))], rf_MM w m)) (by decide +kernel) rfl trivial ?_
  obtain ⟨y0, m0, hc0, hg⟩ := rf_b_some hg
  refine rf_calls C rf_fit0 j_X14_bits (As := [.int (a5 >>> ((a7 + 1) &&& 31))]) (rest := []) mw_X14_bits (c_X14_bits hc0) (by decide) lk_14_767 rfl rfl (Nat.le_of_ble_eq_true rfl) (by decide +kernel) ?_
  show rf_V 10 (rf_sh w) K 0 0 105 ([(8, .int s0), (0, .ref 206), (1, .int a1), (2, .int a2), (3, .ref 260), (4, .int a4), (5, .int a5), (6, .int a6), (7, .int a7)], [.int y0], rf_MM w m0)
  refine rf_seg C [(.iconst 1, 1), (.iand, 1), (.iconst 1, 1)] (pc' := 108) (S' := ([(8, .int s0), (0, .ref 206), (1, .int a1), (2, .int a2), (3, .ref 260), (4, .int a4), (5, .int a5), (6, .int a6), (7, .int a7)], [.int 1, .int (y0 &&& 1)], rf_MM w m0)) (by decide +kernel) rfl trivial ?_
  refine rf_icmp_ne C 7 115 (by decide +kernel) (fun hc => ?_) (fun hc => ?_)
  · replace hg := (if_neg hc).symm.trans hg
    refine rf_seg C [(.iconst 0, 1)] (pc' := 116) (S' := ([(8, .int s0), (0, .ref 206), (1, .int a1), (2, .int a2), (3, .ref 260), (4, .int a4), (5, .int a5), (6, .int a6), (7, .int a7)], [.int 0], rf_MM w m0)) (by decide +kernel) rfl trivial ?_
    refine rf_few [1, 2, 3, 4, 5, 6, 7, 8, 0] rfl ?_
    exact s_X14_determinant__260_116 C hE hr12 hr45 a1 a2 a4 a5 a6 a7 s0 0 m0 hg
  · replace hg := (if_pos hc).symm.trans hg
    refine rf_seg C [(.iconst 1, 1)] (pc' := 112) (S' := ([(8, .int s0), (0, .ref 206), (1, .int a1), (2, .int a2), (3, .ref 260), (4, .int a4), (5, .int a5), (6, .int a6), (7, .int a7)], [.int 1], rf_MM w m0)) (by decide +kernel) rfl trivial ?_
    refine rf_goto C 4 116 (by decide +kernel) ?_
    refine rf_few [1, 2, 3, 4, 5, 6, 7, 8, 0] rfl ?_
    exact s_X14_determinant__260_116 C hE hr12 hr45 a1 a2 a4 a5 a6 a7 s0 1 m0 hg
theorem s_X14_determinant__260_45_b {w : rf_w} {K : rf_K} {r : rf_m} (C : rf_Ctx 14 cX14_determinant 10 3 (rf_sh w) K) (hE : rf_End none K (rf_sh w) 0 0 none (rf_MM w r)) {rec12 : Int32 → Int32 → Int32 → Int32 → rf_m → Option (rf_m)} {rec45 : Int32 → Int32 → Int32 → Int32 → Int32 → Int32 → rf_m → Option (rf_m)} (hr12 : ∀ (a1 : Int32) (a2 : Int32) (a4 : Int32) (a5 : Int32) (m : rf_m), rec12 a1 a2 a4 a5 m = some r → rf_V 10 (rf_sh w) K 0 0 12 ([(0, .ref 206), (1, .int a1), (2, .int a2), (3, .ref 260), (4, .int a4), (5, .int a5)], [], rf_MM w m)) (hr45 : ∀ (a1 : Int32) (a2 : Int32) (a4 : Int32) (a5 : Int32) (a6 : Int32) (a7 : Int32) (m : rf_m), rec45 a1 a2 a4 a5 a6 a7 m = some r → rf_V 10 (rf_sh w) K 0 0 45 ([(0, .ref 206), (1, .int a1), (2, .int a2), (3, .ref 260), (4, .int a4), (5, .int a5), (6, .int a6), (7, .int a7)], [], rf_MM w m)) (a1 : Int32) (a2 : Int32) (a4 : Int32) (a5 : Int32) (a6 : Int32) (a7 : Int32) (m : rf_m) (hg : g_X14_determinant__260_45_b w rec12 rec45 a1 a2 a4 a5 a6 a7 m = some r) : rf_V 10 (rf_sh w) K 0 0 45 ([(0, .ref 206), (1, .int a1), (2, .int a2), (3, .ref 260), (4, .int a4), (5, .int a5), (6, .int a6), (7, .int a7)], [], rf_MM w m) := by
  unfold g_X14_determinant__260_45_b at hg
  refine rf_seg C [(.iload 7, 2), (.iload 1, 1)] (pc' := 48) (S' := ([(0, .ref 206), (1, .int a1), (2, .int a2), (3, .ref 260), (4, .int a4), (5, .int a5), (6, .int a6), (7, .int a7)], [.int a1, .int a7], rf_MM w m)) (by decide +kernel) rfl trivial ?_
  refine rf_icmp_ge C 130 178 (by decide +kernel) (fun hc => ?_) (fun hc => ?_)
  · replace hg := (if_pos hc).symm.trans hg
    refine rf_seg C [(.iinc 5 1, 3)] (pc' := 181) (S' := ([(5, .int (a5 + 1)), (0, .ref 206), (1, .int a1), (2, .int a2), (3, .ref 260), (4, .int a4), (6, .int a6), (7, .int a7)], [], rf_MM w m)) (by decide +kernel) rfl trivial ?_
    refine rf_goto C (-169) 12 (by decide +kernel) ?_
    refine rf_few [1, 2, 3, 4, 5, 0] rfl ?_
    exact hr12 a1 a2 a4 (a5 + 1) m hg
  · replace hg := (if_neg hc).symm.trans hg
    refine rf_seg C [(.iload 5, 2), (.iload 7, 2), (.ishr, 1), (.iconst 1, 1), (.iand, 1)] (pc' := 58) (S' := ([(0, .ref 206), (1, .int a1), (2, .int a2), (3, .ref 260), (4, .int a4), (5, .int a5), (6, .int a6), (7, .int a7)], [.int ((a5 >>> (a7 &&& 31)) &&& 1)], rf_MM w m)) (by decide +kernel) rfl trivial ?_
    refine rf_if_ne C 6 64 (by decide +kernel) (fun hc => ?_) (fun hc => ?_)
    · replace hg := (if_neg hc).symm.trans hg
      refine rf_seg C [(.iload 7, 2), (.iload 2, 1)] (pc' := 67) (S' := ([(0, .ref 206), (1, .int a1), (2, .int a2), (3, .ref 260), (4, .int a4), (5, .int a5), (6, .int a6), (7, .int a7)], [.int a2, .int a7], rf_MM w m)) (by decide +kernel) rfl trivial ?_
      refine rf_icmp_ne C 13 80 (by decide +kernel) (fun hc => ?_) (fun hc => ?_)
      · replace hg := (if_neg hc).symm.trans hg
        obtain ⟨q0, hg⟩ := rf_g_some hg
        refine rf_seg C [(.aload 0, 1), (.invokeinterface 14 77, 3), (.iconst 6, 2), (.iload 6, 2), (.imul, 1), (.iload 7, 2), (.iadd, 1), (.iaload, 1)] (pc' := 93) (S' := ([(0, .ref 206), (1, .int a1), (2, .int a2), (3, .ref 260), (4, .int a4), (5, .int a5), (6, .int a6), (7, .int a7)], [.int (m.1 254 (Int32.toNatClampNeg ((6 * a6) + a7)))], rf_MM w m)) (by decide +kernel) rfl (rf_in_of q0) ?_
        refine rf_few [0, 1, 2, 3, 4, 5, 6, 7] rfl ?_
        exact s_X14_determinant__260_93 C hE hr12 hr45 a1 a2 a4 a5 a6 a7 (m.1 254 (Int32.toNatClampNeg ((6 * a6) + a7))) m hg
      · replace hg := (if_pos hc).symm.trans hg
        obtain ⟨q1, hg⟩ := rf_g_some hg
        refine rf_seg C [(.aload 0, 1), (.invokeinterface 14 78, 3), (.iload 6, 2), (.iaload, 1)] (pc' := 77) (S' := ([(0, .ref 206), (1, .int a1), (2, .int a2), (3, .ref 260), (4, .int a4), (5, .int a5), (6, .int a6), (7, .int a7)], [.int (m.1 255 (Int32.toNatClampNeg a6))], rf_MM w m)) (by decide +kernel) rfl (rf_in_of q1) ?_
        refine rf_goto C 16 93 (by decide +kernel) ?_
        refine rf_few [0, 1, 2, 3, 4, 5, 6, 7] rfl ?_
        exact s_X14_determinant__260_93 C hE hr12 hr45 a1 a2 a4 a5 a6 a7 (m.1 255 (Int32.toNatClampNeg a6)) m hg
    · replace hg := (if_pos hc).symm.trans hg
      refine rf_goto C 111 172 (by decide +kernel) ?_
      refine rf_few [0, 1, 2, 3, 4, 5, 6, 7] rfl ?_
      exact s_X14_determinant__260_172 C hE hr12 hr45 a1 a2 a4 a5 a6 a7 m hg
theorem s_X14_determinant__260_45 {w : rf_w} {K : rf_K} {r : rf_m} (C : rf_Ctx 14 cX14_determinant 10 3 (rf_sh w) K) (hE : rf_End none K (rf_sh w) 0 0 none (rf_MM w r)) {rec12 : Int32 → Int32 → Int32 → Int32 → rf_m → Option (rf_m)} (hr12 : ∀ (a1 : Int32) (a2 : Int32) (a4 : Int32) (a5 : Int32) (m : rf_m), rec12 a1 a2 a4 a5 m = some r → rf_V 10 (rf_sh w) K 0 0 12 ([(0, .ref 206), (1, .int a1), (2, .int a2), (3, .ref 260), (4, .int a4), (5, .int a5)], [], rf_MM w m)) (n : Nat) : ∀ (a1 : Int32) (a2 : Int32) (a4 : Int32) (a5 : Int32) (a6 : Int32) (a7 : Int32) (m : rf_m), g_X14_determinant__260_45 w rec12 n a1 a2 a4 a5 a6 a7 m = some r → rf_V 10 (rf_sh w) K 0 0 45 ([(0, .ref 206), (1, .int a1), (2, .int a2), (3, .ref 260), (4, .int a4), (5, .int a5), (6, .int a6), (7, .int a7)], [], rf_MM w m) := by
  induction n with
  | zero => intro a1 a2 a4 a5 a6 a7 m hg; cases hg
  | succ n ih => intro a1 a2 a4 a5 a6 a7 m hg; exact s_X14_determinant__260_45_b C hE hr12 ih a1 a2 a4 a5 a6 a7 m hg
theorem s_X14_determinant__260_12_b {w : rf_w} {K : rf_K} {r : rf_m} (C : rf_Ctx 14 cX14_determinant 10 3 (rf_sh w) K) (hE : rf_End none K (rf_sh w) 0 0 none (rf_MM w r)) {rec12 : Int32 → Int32 → Int32 → Int32 → rf_m → Option (rf_m)} (hr12 : ∀ (a1 : Int32) (a2 : Int32) (a4 : Int32) (a5 : Int32) (m : rf_m), rec12 a1 a2 a4 a5 m = some r → rf_V 10 (rf_sh w) K 0 0 12 ([(0, .ref 206), (1, .int a1), (2, .int a2), (3, .ref 260), (4, .int a4), (5, .int a5)], [], rf_MM w m)) (a1 : Int32) (a2 : Int32) (a4 : Int32) (a5 : Int32) (m : rf_m) (hg : g_X14_determinant__260_12_b w rec12 a1 a2 a4 a5 m = some r) : rf_V 10 (rf_sh w) K 0 0 12 ([(0, .ref 206), (1, .int a1), (2, .int a2), (3, .ref 260), (4, .int a4), (5, .int a5)], [], rf_MM w m) := by
  unfold g_X14_determinant__260_12_b at hg
  refine rf_seg C [(.iload 5, 2), (.iconst 1, 1), (.iload 1, 1), (.ishl, 1)] (pc' := 17) (S' := ([(0, .ref 206), (1, .int a1), (2, .int a2), (3, .ref 260), (4, .int a4), (5, .int a5)], [.int (1 <<< (a1 &&& 31)), .int a5], rf_MM w m)) (by decide +kernel) rfl trivial ?_
  refine rf_icmp_ge C 167 184 (by decide +kernel) (fun hc => ?_) (fun hc => ?_)
  · replace hg := (if_pos hc).symm.trans hg
    refine rf_seg C [(.aload 3, 1), (.iload 4, 2), (.aload 0, 1), (.invokeinterface 14 79, 3), (.iconst 6, 2), (.iconst 1, 1), (.iload 1, 1), (.ishl, 1), (.iconst 1, 1), (.isub, 1), (.imul, 1)] (pc' := 199) (S' := ([(0, .ref 206), (1, .int a1), (2, .int a2), (3, .ref 260), (4, .int a4), (5, .int a5)], [.int (6 * ((1 <<< (a1 &&& 31)) - 1)), .ref 256, .int a4, .ref 260], rf_MM w m)) (by decide +kernel) rfl trivial ?_
    obtain ⟨m0, hc0, hg⟩ := rf_bv_some hg
    refine rf_calls C rf_fit0 j_X14_copies__260_256 (As := [.ref 260, .int a4, .ref 256, .int (6 * ((1 <<< (a1 &&& 31)) - 1))]) (rest := []) mw_X14_copies__260_256 (c_X14_copies__260_256 hc0) (by decide) lk_14_744 rfl rfl (Nat.le_of_ble_eq_true rfl) (by decide +kernel) ?_
    show rf_V 10 (rf_sh w) K 0 0 202 ([(0, .ref 206), (1, .int a1), (2, .int a2), (3, .ref 260), (4, .int a4), (5, .int a5)], [], rf_MM w m0)
    obtain rfl := Option.some.inj hg
    exact rf_vret C hE (by decide +kernel)
  · replace hg := (if_neg hc).symm.trans hg
    refine rf_seg C [(.aload 0, 1), (.invokeinterface 14 79, 3), (.iconst 6, 2), (.iload 5, 2), (.imul, 1), (.goto_w 0, 1)] (pc' := 30) (S' := ([(0, .ref 206), (1, .int a1), (2, .int a2), (3, .ref 260), (4, .int a4), (5, .int a5)], [.long 0, .int (6 * a5), .ref 256], rf_MM w m)) (by decide +kernel) rfl trivial ?_
    obtain ⟨m1, hc1, hg⟩ := rf_bv_some hg
    refine rf_calls C rf_fit0 j_X14_set__256 (As := [.ref 256, .int (6 * a5), .long 0]) (rest := []) mw_X14_set__256 (c_X14_set__256 hc1) (by decide) lk_14_740 rfl rfl (Nat.le_of_ble_eq_true rfl) (by decide +kernel) ?_
    show rf_V 10 (rf_sh w) K 0 0 33 ([(0, .ref 206), (1, .int a1), (2, .int a2), (3, .ref 260), (4, .int a4), (5, .int a5)], [], rf_MM w m1)
    refine rf_seg C [(.iload 5, 2)] (pc' := 35) (S' := ([(0, .ref 206), (1, .int a1), (2, .int a2), (3, .ref 260), (4, .int a4), (5, .int a5)], [.int a5], rf_MM w m1)) (by decide +kernel) rfl trivial ?_
    obtain ⟨y2, m2, hc2, hg⟩ := rf_b_some hg
    refine rf_calls C rf_fit0 j_X14_bits (As := [.int a5]) (rest := []) mw_X14_bits (c_X14_bits hc2) (by decide) lk_14_767 rfl rfl (Nat.le_of_ble_eq_true rfl) (by decide +kernel) ?_
    show rf_V 10 (rf_sh w) K 0 0 38 ([(0, .ref 206), (1, .int a1), (2, .int a2), (3, .ref 260), (4, .int a4), (5, .int a5)], [.int y2], rf_MM w m2)
    refine rf_seg C [(.iconst 1, 1), (.isub, 1), (.istore 6, 2), (.iconst 0, 1), (.istore 7, 2)] (pc' := 45) (S' := ([(7, .int 0), (6, .int (y2 - 1)), (0, .ref 206), (1, .int a1), (2, .int a2), (3, .ref 260), (4, .int a4), (5, .int a5)], [], rf_MM w m2)) (by decide +kernel) rfl trivial ?_
    refine rf_few [2, 3, 4, 5, 6, 7, 1, 0] rfl ?_
    exact s_X14_determinant__260_45 C hE hr12 rf_fuel a1 a2 a4 a5 (y2 - 1) 0 m2 hg
theorem s_X14_determinant__260_12 {w : rf_w} {K : rf_K} {r : rf_m} (C : rf_Ctx 14 cX14_determinant 10 3 (rf_sh w) K) (hE : rf_End none K (rf_sh w) 0 0 none (rf_MM w r)) (n : Nat) : ∀ (a1 : Int32) (a2 : Int32) (a4 : Int32) (a5 : Int32) (m : rf_m), g_X14_determinant__260_12 w n a1 a2 a4 a5 m = some r → rf_V 10 (rf_sh w) K 0 0 12 ([(0, .ref 206), (1, .int a1), (2, .int a2), (3, .ref 260), (4, .int a4), (5, .int a5)], [], rf_MM w m) := by
  induction n with
  | zero => intro a1 a2 a4 a5 m hg; cases hg
  | succ n ih => intro a1 a2 a4 a5 m hg; exact s_X14_determinant__260_12_b C hE ih a1 a2 a4 a5 m hg
theorem c_X14_determinant__260 {w : rf_w} {m : rf_m} {a1 : Int32} {a2 : Int32} {a4 : Int32} {r : rf_m} (hg : g_X14_determinant__260 w m a1 a2 a4 = some r) : rf_Con j_X14_determinant__260 3 (rf_sh w) [.ref 206, .int a1, .int a2, .ref 260, .int a4] (rf_MM w m) none (rf_MM w r) := by
  refine rf_con j_X14_determinant__260 3 ⟨by decide +kernel, rfl, Nat.le_of_ble_eq_true rfl⟩ (fun K C hE => ?_)
  unfold g_X14_determinant__260 at hg
  show rf_V 10 (rf_sh w) K 0 0 0 ([(0, .ref 206), (1, .int a1), (2, .int a2), (3, .ref 260), (4, .int a4)], [], rf_MM w m)
  refine rf_seg C [(.aload 0, 1), (.invokeinterface 14 79, 3), (.iconst 0, 1), (.goto_w 1, 1)] (pc' := 6) (S' := ([(0, .ref 206), (1, .int a1), (2, .int a2), (3, .ref 260), (4, .int a4)], [.long 1, .int 0, .ref 256], rf_MM w m)) (by decide +kernel) rfl trivial ?_
  obtain ⟨m0, hc0, hg⟩ := rf_bv_some hg
  refine rf_calls C rf_fit0 j_X14_set__256 (As := [.ref 256, .int 0, .long 1]) (rest := []) mw_X14_set__256 (c_X14_set__256 hc0) (by decide) lk_14_740 rfl rfl (Nat.le_of_ble_eq_true rfl) (by decide +kernel) ?_
  show rf_V 10 (rf_sh w) K 0 0 9 ([(0, .ref 206), (1, .int a1), (2, .int a2), (3, .ref 260), (4, .int a4)], [], rf_MM w m0)
  refine rf_seg C [(.iconst 1, 1), (.istore 5, 2)] (pc' := 12) (S' := ([(5, .int 1), (0, .ref 206), (1, .int a1), (2, .int a2), (3, .ref 260), (4, .int a4)], [], rf_MM w m0)) (by decide +kernel) rfl trivial ?_
  refine rf_few [1, 2, 3, 4, 5, 0] rfl ?_
  exact s_X14_determinant__260_12 C hE rf_fuel a1 a2 a4 1 m0 hg
-- X14_isZero__260
abbrev j_X14_isZero__260 : rf_J := (14, yX14_isZero, cX14_isZero, 4, (some .boolean))
theorem mw_X14_isZero__260 : rf_ms j_X14_isZero__260 2 := ⟨⟨rf_mem 72 (by decide +kernel), rf_mem 0 (by decide +kernel), rf_mem 72 (by decide +kernel)⟩, by decide +kernel, by decide⟩
def g_X14_isZero__260_27 (w : rf_w) (rec4 : Int32 → Int32 → Int32 → rf_m → Option (Int32 × rf_m)) (a1 : Int32) (a3 : Int32) (s0 : Int32) (m : rf_m) : Option (Int32 × rf_m) := rec4 a1 s0 (a3 + 1) m
def g_X14_isZero__260_26 (w : rf_w) (rec4 : Int32 → Int32 → Int32 → rf_m → Option (Int32 × rf_m)) (a1 : Int32) (a3 : Int32) (m : rf_m) : Option (Int32 × rf_m) := g_X14_isZero__260_27 w rec4 a1 a3 0 m
def g_X14_isZero__260_4_b (w : rf_w) (rec4 : Int32 → Int32 → Int32 → rf_m → Option (Int32 × rf_m)) (a1 : Int32) (a2 : Int32) (a3 : Int32) (m : rf_m) : Option (Int32 × rf_m) := (if 6 ≤ a3 then rf_g (rf_01 a2) (some (a2, m)) else (if a2 = 0 then g_X14_isZero__260_26 w rec4 a1 a3 m else rf_g (rf_in (a1 + a3) 6) ((if (m.1 260 (Int32.toNatClampNeg (a1 + a3))) = 0 then g_X14_isZero__260_27 w rec4 a1 a3 1 m else g_X14_isZero__260_26 w rec4 a1 a3 m))))
def g_X14_isZero__260_4 (w : rf_w) : Nat → Int32 → Int32 → Int32 → rf_m → Option (Int32 × rf_m)
  | 0, _, _, _, _ => none
  | n + 1, a1, a2, a3, m => g_X14_isZero__260_4_b w (g_X14_isZero__260_4 w n) a1 a2 a3 m
def g_X14_isZero__260 (w : rf_w) (m : rf_m) (a1 : Int32) : Option (Int32 × rf_m) := g_X14_isZero__260_4 w rf_fuel a1 1 0 m
theorem s_X14_isZero__260_27 {w : rf_w} {K : rf_K} {r : Int32 × rf_m} (C : rf_Ctx 14 cX14_isZero 4 1 (rf_sh w) K) (hE : rf_End (some .boolean) K (rf_sh w) 0 0 (some (.int r.1)) (rf_MM w r.2)) {rec4 : Int32 → Int32 → Int32 → rf_m → Option (Int32 × rf_m)} (hr4 : ∀ (a1 : Int32) (a2 : Int32) (a3 : Int32) (m : rf_m), rec4 a1 a2 a3 m = some r → rf_V 4 (rf_sh w) K 0 0 4 ([(0, .ref 260), (1, .int a1), (2, .int a2), (3, .int a3)], [], rf_MM w m)) (a1 : Int32) (a3 : Int32) (s0 : Int32) (m : rf_m) (hg : g_X14_isZero__260_27 w rec4 a1 a3 s0 m = some r) : rf_V 4 (rf_sh w) K 0 0 27 ([(0, .ref 260), (1, .int a1), (3, .int a3)], [.int s0], rf_MM w m) := by
  unfold g_X14_isZero__260_27 at hg
  refine rf_seg C [(.istore 2, 1), (.iinc 3 1, 3)] (pc' := 31) (S' := ([(3, .int (a3 + 1)), (2, .int s0), (0, .ref 260), (1, .int a1)], [], rf_MM w m)) (by decide +kernel) rfl trivial ?_
  refine rf_goto C (-27) 4 (by decide +kernel) ?_
  refine rf_few [2, 3, 1, 0] rfl ?_
  exact hr4 a1 s0 (a3 + 1) m hg
theorem s_X14_isZero__260_26 {w : rf_w} {K : rf_K} {r : Int32 × rf_m} (C : rf_Ctx 14 cX14_isZero 4 1 (rf_sh w) K) (hE : rf_End (some .boolean) K (rf_sh w) 0 0 (some (.int r.1)) (rf_MM w r.2)) {rec4 : Int32 → Int32 → Int32 → rf_m → Option (Int32 × rf_m)} (hr4 : ∀ (a1 : Int32) (a2 : Int32) (a3 : Int32) (m : rf_m), rec4 a1 a2 a3 m = some r → rf_V 4 (rf_sh w) K 0 0 4 ([(0, .ref 260), (1, .int a1), (2, .int a2), (3, .int a3)], [], rf_MM w m)) (a1 : Int32) (a3 : Int32) (m : rf_m) (hg : g_X14_isZero__260_26 w rec4 a1 a3 m = some r) : rf_V 4 (rf_sh w) K 0 0 26 ([(0, .ref 260), (1, .int a1), (3, .int a3)], [], rf_MM w m) := by
  unfold g_X14_isZero__260_26 at hg
  refine rf_seg C [(.iconst 0, 1)] (pc' := 27) (S' := ([(0, .ref 260), (1, .int a1), (3, .int a3)], [.int 0], rf_MM w m)) (by decide +kernel) rfl trivial ?_
  refine rf_few [0, 1, 2] rfl ?_
  exact s_X14_isZero__260_27 C hE hr4 a1 a3 0 m hg
theorem s_X14_isZero__260_4_b {w : rf_w} {K : rf_K} {r : Int32 × rf_m} (C : rf_Ctx 14 cX14_isZero 4 1 (rf_sh w) K) (hE : rf_End (some .boolean) K (rf_sh w) 0 0 (some (.int r.1)) (rf_MM w r.2)) {rec4 : Int32 → Int32 → Int32 → rf_m → Option (Int32 × rf_m)} (hr4 : ∀ (a1 : Int32) (a2 : Int32) (a3 : Int32) (m : rf_m), rec4 a1 a2 a3 m = some r → rf_V 4 (rf_sh w) K 0 0 4 ([(0, .ref 260), (1, .int a1), (2, .int a2), (3, .int a3)], [], rf_MM w m)) (a1 : Int32) (a2 : Int32) (a3 : Int32) (m : rf_m) (hg : g_X14_isZero__260_4_b w rec4 a1 a2 a3 m = some r) : rf_V 4 (rf_sh w) K 0 0 4 ([(0, .ref 260), (1, .int a1), (2, .int a2), (3, .int a3)], [], rf_MM w m) := by
  unfold g_X14_isZero__260_4_b at hg
  refine rf_seg C [(.iload 3, 1), (.iconst 6, 2)] (pc' := 7) (S' := ([(0, .ref 260), (1, .int a1), (2, .int a2), (3, .int a3)], [.int 6, .int a3], rf_MM w m)) (by decide +kernel) rfl trivial ?_
  refine rf_icmp_ge C 27 34 (by decide +kernel) (fun hc => ?_) (fun hc => ?_)
  · replace hg := (if_pos hc).symm.trans hg
    refine rf_seg C [(.iload 2, 1)] (pc' := 35) (S' := ([(0, .ref 260), (1, .int a1), (2, .int a2), (3, .int a3)], [.int a2], rf_MM w m)) (by decide +kernel) rfl trivial ?_
    obtain ⟨q01, hg⟩ := rf_g_some hg
    obtain rfl := Option.some.inj hg
    exact rf_zret C hE (rf_01_of q01) (by decide +kernel)
  · replace hg := (if_neg hc).symm.trans hg
    refine rf_seg C [(.iload 2, 1)] (pc' := 11) (S' := ([(0, .ref 260), (1, .int a1), (2, .int a2), (3, .int a3)], [.int a2], rf_MM w m)) (by decide +kernel) rfl trivial ?_
    refine rf_if_eq C 15 26 (by decide +kernel) (fun hc => ?_) (fun hc => ?_)
    · replace hg := (if_pos hc).symm.trans hg
      refine rf_few [0, 1, 3] rfl ?_
      exact s_X14_isZero__260_26 C hE hr4 a1 a3 m hg
    · replace hg := (if_neg hc).symm.trans hg
      obtain ⟨q0, hg⟩ := rf_g_some hg
      refine rf_seg C [(.aload 0, 1), (.iload 1, 1), (.iload 3, 1), (.iadd, 1), (.iaload, 1)] (pc' := 19) (S' := ([(0, .ref 260), (1, .int a1), (2, .int a2), (3, .int a3)], [.int (m.1 260 (Int32.toNatClampNeg (a1 + a3)))], rf_MM w m)) (by decide +kernel) rfl (rf_in_of q0) ?_
      refine rf_if_ne C 7 26 (by decide +kernel) (fun hc => ?_) (fun hc => ?_)
      · replace hg := (if_neg hc).symm.trans hg
        refine rf_few [0, 1, 3] rfl ?_
        exact s_X14_isZero__260_26 C hE hr4 a1 a3 m hg
      · replace hg := (if_pos hc).symm.trans hg
        refine rf_seg C [(.iconst 1, 1)] (pc' := 23) (S' := ([(0, .ref 260), (1, .int a1), (2, .int a2), (3, .int a3)], [.int 1], rf_MM w m)) (by decide +kernel) rfl trivial ?_
        refine rf_goto C 4 27 (by decide +kernel) ?_
        refine rf_few [0, 1, 3] rfl ?_
        exact s_X14_isZero__260_27 C hE hr4 a1 a3 1 m hg
theorem s_X14_isZero__260_4 {w : rf_w} {K : rf_K} {r : Int32 × rf_m} (C : rf_Ctx 14 cX14_isZero 4 1 (rf_sh w) K) (hE : rf_End (some .boolean) K (rf_sh w) 0 0 (some (.int r.1)) (rf_MM w r.2)) (n : Nat) : ∀ (a1 : Int32) (a2 : Int32) (a3 : Int32) (m : rf_m), g_X14_isZero__260_4 w n a1 a2 a3 m = some r → rf_V 4 (rf_sh w) K 0 0 4 ([(0, .ref 260), (1, .int a1), (2, .int a2), (3, .int a3)], [], rf_MM w m) := by
  induction n with
  | zero => intro a1 a2 a3 m hg; cases hg
  | succ n ih => intro a1 a2 a3 m hg; exact s_X14_isZero__260_4_b C hE ih a1 a2 a3 m hg
theorem c_X14_isZero__260 {w : rf_w} {m : rf_m} {a1 : Int32} {r : Int32 × rf_m} (hg : g_X14_isZero__260 w m a1 = some r) : rf_Con j_X14_isZero__260 1 (rf_sh w) [.ref 260, .int a1] (rf_MM w m) (some (.int r.1)) (rf_MM w r.2) := by
  refine rf_con j_X14_isZero__260 1 ⟨by decide +kernel, rfl, Nat.le_of_ble_eq_true rfl⟩ (fun K C hE => ?_)
  unfold g_X14_isZero__260 at hg
  show rf_V 4 (rf_sh w) K 0 0 0 ([(0, .ref 260), (1, .int a1)], [], rf_MM w m)
  refine rf_seg C [(.iconst 1, 1), (.istore 2, 1), (.iconst 0, 1), (.istore 3, 1)] (pc' := 4) (S' := ([(3, .int 0), (2, .int 1), (0, .ref 260), (1, .int a1)], [], rf_MM w m)) (by decide +kernel) rfl trivial ?_
  refine rf_few [2, 3, 1, 0] rfl ?_
  exact s_X14_isZero__260_4 C hE rf_fuel a1 1 0 m hg
-- X14_copies__259_260
abbrev j_X14_copies__259_260 : rf_J := (14, yX14_copies, cX14_copies, 5, none)
theorem mw_X14_copies__259_260 : rf_ms j_X14_copies__259_260 4 := ⟨⟨rf_mem 71 (by decide +kernel), rf_mem 0 (by decide +kernel), rf_mem 71 (by decide +kernel)⟩, by decide +kernel, by decide⟩
def g_X14_copies__259_260_3_b (w : rf_w) (rec3 : Int32 → Int32 → Int32 → rf_m → Option (rf_m)) (a1 : Int32) (a3 : Int32) (a4 : Int32) (m : rf_m) : Option (rf_m) := (if 6 ≤ a4 then some m else rf_g (rf_in (a3 + a4) 6) (rf_g (rf_in (a1 + a4) 6) (rec3 a1 a3 (a4 + 1) (rf_i m 259 (Int32.toNatClampNeg (a1 + a4)) (m.1 260 (Int32.toNatClampNeg (a3 + a4)))))))
def g_X14_copies__259_260_3 (w : rf_w) : Nat → Int32 → Int32 → Int32 → rf_m → Option (rf_m)
  | 0, _, _, _, _ => none
  | n + 1, a1, a3, a4, m => g_X14_copies__259_260_3_b w (g_X14_copies__259_260_3 w n) a1 a3 a4 m
def g_X14_copies__259_260 (w : rf_w) (m : rf_m) (a1 : Int32) (a3 : Int32) : Option (rf_m) := g_X14_copies__259_260_3 w rf_fuel a1 a3 0 m
theorem s_X14_copies__259_260_3_b {w : rf_w} {K : rf_K} {r : rf_m} (C : rf_Ctx 14 cX14_copies 5 1 (rf_sh w) K) (hE : rf_End none K (rf_sh w) 0 0 none (rf_MM w r)) {rec3 : Int32 → Int32 → Int32 → rf_m → Option (rf_m)} (hr3 : ∀ (a1 : Int32) (a3 : Int32) (a4 : Int32) (m : rf_m), rec3 a1 a3 a4 m = some r → rf_V 5 (rf_sh w) K 0 0 3 ([(0, .ref 259), (1, .int a1), (2, .ref 260), (3, .int a3), (4, .int a4)], [], rf_MM w m)) (a1 : Int32) (a3 : Int32) (a4 : Int32) (m : rf_m) (hg : g_X14_copies__259_260_3_b w rec3 a1 a3 a4 m = some r) : rf_V 5 (rf_sh w) K 0 0 3 ([(0, .ref 259), (1, .int a1), (2, .ref 260), (3, .int a3), (4, .int a4)], [], rf_MM w m) := by
  unfold g_X14_copies__259_260_3_b at hg
  refine rf_seg C [(.iload 4, 2), (.iconst 6, 2)] (pc' := 7) (S' := ([(0, .ref 259), (1, .int a1), (2, .ref 260), (3, .int a3), (4, .int a4)], [.int 6, .int a4], rf_MM w m)) (by decide +kernel) rfl trivial ?_
  refine rf_icmp_ge C 21 28 (by decide +kernel) (fun hc => ?_) (fun hc => ?_)
  · replace hg := (if_pos hc).symm.trans hg
    obtain rfl := Option.some.inj hg
    exact rf_vret C hE (by decide +kernel)
  · replace hg := (if_neg hc).symm.trans hg
    obtain ⟨q0, hg⟩ := rf_g_some hg
    obtain ⟨q1, hg⟩ := rf_g_some hg
    refine rf_seg C [(.aload 0, 1), (.iload 1, 1), (.iload 4, 2), (.iadd, 1), (.aload 2, 1), (.iload 3, 1), (.iload 4, 2), (.iadd, 1), (.iaload, 1), (.iastore, 1), (.iinc 4 1, 3)] (pc' := 25) (S' := ([(4, .int (a4 + 1)), (0, .ref 259), (1, .int a1), (2, .ref 260), (3, .int a3)], [], rf_MM w (rf_i m 259 (Int32.toNatClampNeg (a1 + a4)) (m.1 260 (Int32.toNatClampNeg (a3 + a4)))))) (by decide +kernel) rfl (by exact ⟨(rf_in_of q0), (rf_in_of q1)⟩) ?_
    refine rf_goto C (-22) 3 (by decide +kernel) ?_
    refine rf_few [1, 2, 3, 4, 0] rfl ?_
    exact hr3 a1 a3 (a4 + 1) (rf_i m 259 (Int32.toNatClampNeg (a1 + a4)) (m.1 260 (Int32.toNatClampNeg (a3 + a4)))) hg
theorem s_X14_copies__259_260_3 {w : rf_w} {K : rf_K} {r : rf_m} (C : rf_Ctx 14 cX14_copies 5 1 (rf_sh w) K) (hE : rf_End none K (rf_sh w) 0 0 none (rf_MM w r)) (n : Nat) : ∀ (a1 : Int32) (a3 : Int32) (a4 : Int32) (m : rf_m), g_X14_copies__259_260_3 w n a1 a3 a4 m = some r → rf_V 5 (rf_sh w) K 0 0 3 ([(0, .ref 259), (1, .int a1), (2, .ref 260), (3, .int a3), (4, .int a4)], [], rf_MM w m) := by
  induction n with
  | zero => intro a1 a3 a4 m hg; cases hg
  | succ n ih => intro a1 a3 a4 m hg; exact s_X14_copies__259_260_3_b C hE ih a1 a3 a4 m hg
theorem c_X14_copies__259_260 {w : rf_w} {m : rf_m} {a1 : Int32} {a3 : Int32} {r : rf_m} (hg : g_X14_copies__259_260 w m a1 a3 = some r) : rf_Con j_X14_copies__259_260 1 (rf_sh w) [.ref 259, .int a1, .ref 260, .int a3] (rf_MM w m) none (rf_MM w r) := by
  refine rf_con j_X14_copies__259_260 1 ⟨by decide +kernel, rfl, Nat.le_of_ble_eq_true rfl⟩ (fun K C hE => ?_)
  unfold g_X14_copies__259_260 at hg
  show rf_V 5 (rf_sh w) K 0 0 0 ([(0, .ref 259), (1, .int a1), (2, .ref 260), (3, .int a3)], [], rf_MM w m)
  refine rf_seg C [(.iconst 0, 1), (.istore 4, 2)] (pc' := 3) (S' := ([(4, .int 0), (0, .ref 259), (1, .int a1), (2, .ref 260), (3, .int a3)], [], rf_MM w m)) (by decide +kernel) rfl trivial ?_
  refine rf_few [1, 2, 3, 4, 0] rfl ?_
  exact s_X14_copies__259_260_3 C hE rf_fuel a1 a3 0 m hg
-- X14_copies__253_259
abbrev j_X14_copies__253_259 : rf_J := (14, yX14_copies, cX14_copies, 5, none)
theorem mw_X14_copies__253_259 : rf_ms j_X14_copies__253_259 4 := ⟨⟨rf_mem 71 (by decide +kernel), rf_mem 0 (by decide +kernel), rf_mem 71 (by decide +kernel)⟩, by decide +kernel, by decide⟩
def g_X14_copies__253_259_3_b (w : rf_w) (rec3 : Int32 → Int32 → Int32 → rf_m → Option (rf_m)) (a1 : Int32) (a3 : Int32) (a4 : Int32) (m : rf_m) : Option (rf_m) := (if 6 ≤ a4 then some m else rf_g (rf_in (a3 + a4) 6) (rf_g (rf_in (a1 + a4) 6) (rec3 a1 a3 (a4 + 1) (rf_i m 253 (Int32.toNatClampNeg (a1 + a4)) (m.1 259 (Int32.toNatClampNeg (a3 + a4)))))))
def g_X14_copies__253_259_3 (w : rf_w) : Nat → Int32 → Int32 → Int32 → rf_m → Option (rf_m)
  | 0, _, _, _, _ => none
  | n + 1, a1, a3, a4, m => g_X14_copies__253_259_3_b w (g_X14_copies__253_259_3 w n) a1 a3 a4 m
def g_X14_copies__253_259 (w : rf_w) (m : rf_m) (a1 : Int32) (a3 : Int32) : Option (rf_m) := g_X14_copies__253_259_3 w rf_fuel a1 a3 0 m
theorem s_X14_copies__253_259_3_b {w : rf_w} {K : rf_K} {r : rf_m} (C : rf_Ctx 14 cX14_copies 5 1 (rf_sh w) K) (hE : rf_End none K (rf_sh w) 0 0 none (rf_MM w r)) {rec3 : Int32 → Int32 → Int32 → rf_m → Option (rf_m)} (hr3 : ∀ (a1 : Int32) (a3 : Int32) (a4 : Int32) (m : rf_m), rec3 a1 a3 a4 m = some r → rf_V 5 (rf_sh w) K 0 0 3 ([(0, .ref 253), (1, .int a1), (2, .ref 259), (3, .int a3), (4, .int a4)], [], rf_MM w m)) (a1 : Int32) (a3 : Int32) (a4 : Int32) (m : rf_m) (hg : g_X14_copies__253_259_3_b w rec3 a1 a3 a4 m = some r) : rf_V 5 (rf_sh w) K 0 0 3 ([(0, .ref 253), (1, .int a1), (2, .ref 259), (3, .int a3), (4, .int a4)], [], rf_MM w m) := by
  unfold g_X14_copies__253_259_3_b at hg
  refine rf_seg C [(.iload 4, 2), (.iconst 6, 2)] (pc' := 7) (S' := ([(0, .ref 253), (1, .int a1), (2, .ref 259), (3, .int a3), (4, .int a4)], [.int 6, .int a4], rf_MM w m)) (by decide +kernel) rfl trivial ?_
  refine rf_icmp_ge C 21 28 (by decide +kernel) (fun hc => ?_) (fun hc => ?_)
  · replace hg := (if_pos hc).symm.trans hg
    obtain rfl := Option.some.inj hg
    exact rf_vret C hE (by decide +kernel)
  · replace hg := (if_neg hc).symm.trans hg
    obtain ⟨q0, hg⟩ := rf_g_some hg
    obtain ⟨q1, hg⟩ := rf_g_some hg
    refine rf_seg C [(.aload 0, 1), (.iload 1, 1), (.iload 4, 2), (.iadd, 1), (.aload 2, 1), (.iload 3, 1), (.iload 4, 2), (.iadd, 1), (.iaload, 1), (.iastore, 1), (.iinc 4 1, 3)] (pc' := 25) (S' := ([(4, .int (a4 + 1)), (0, .ref 253), (1, .int a1), (2, .ref 259), (3, .int a3)], [], rf_MM w (rf_i m 253 (Int32.toNatClampNeg (a1 + a4)) (m.1 259 (Int32.toNatClampNeg (a3 + a4)))))) (by decide +kernel) rfl (by exact ⟨(rf_in_of q0), (rf_in_of q1)⟩) ?_
    refine rf_goto C (-22) 3 (by decide +kernel) ?_
    refine rf_few [1, 2, 3, 4, 0] rfl ?_
    exact hr3 a1 a3 (a4 + 1) (rf_i m 253 (Int32.toNatClampNeg (a1 + a4)) (m.1 259 (Int32.toNatClampNeg (a3 + a4)))) hg
theorem s_X14_copies__253_259_3 {w : rf_w} {K : rf_K} {r : rf_m} (C : rf_Ctx 14 cX14_copies 5 1 (rf_sh w) K) (hE : rf_End none K (rf_sh w) 0 0 none (rf_MM w r)) (n : Nat) : ∀ (a1 : Int32) (a3 : Int32) (a4 : Int32) (m : rf_m), g_X14_copies__253_259_3 w n a1 a3 a4 m = some r → rf_V 5 (rf_sh w) K 0 0 3 ([(0, .ref 253), (1, .int a1), (2, .ref 259), (3, .int a3), (4, .int a4)], [], rf_MM w m) := by
  induction n with
  | zero => intro a1 a3 a4 m hg; cases hg
  | succ n ih => intro a1 a3 a4 m hg; exact s_X14_copies__253_259_3_b C hE ih a1 a3 a4 m hg
theorem c_X14_copies__253_259 {w : rf_w} {m : rf_m} {a1 : Int32} {a3 : Int32} {r : rf_m} (hg : g_X14_copies__253_259 w m a1 a3 = some r) : rf_Con j_X14_copies__253_259 1 (rf_sh w) [.ref 253, .int a1, .ref 259, .int a3] (rf_MM w m) none (rf_MM w r) := by
  refine rf_con j_X14_copies__253_259 1 ⟨by decide +kernel, rfl, Nat.le_of_ble_eq_true rfl⟩ (fun K C hE => ?_)
  unfold g_X14_copies__253_259 at hg
  show rf_V 5 (rf_sh w) K 0 0 0 ([(0, .ref 253), (1, .int a1), (2, .ref 259), (3, .int a3)], [], rf_MM w m)
  refine rf_seg C [(.iconst 0, 1), (.istore 4, 2)] (pc' := 3) (S' := ([(4, .int 0), (0, .ref 253), (1, .int a1), (2, .ref 259), (3, .int a3)], [], rf_MM w m)) (by decide +kernel) rfl trivial ?_
  refine rf_few [1, 2, 3, 4, 0] rfl ?_
  exact s_X14_copies__253_259_3 C hE rf_fuel a1 a3 0 m hg
-- X14_set__252
abbrev j_X14_set__252 : rf_J := (14, yX14_set, cX14_set, 5, none)
theorem mw_X14_set__252 : rf_ms j_X14_set__252 3 := ⟨⟨rf_mem 71 (by decide +kernel), rf_mem 0 (by decide +kernel), rf_mem 71 (by decide +kernel)⟩, by decide +kernel, by decide⟩
def g_X14_set__252_50 (w : rf_w) (rec3 : Int32 → Int64 → Int32 → rf_m → Option (rf_m)) (a1 : Int32) (a2 : Int64) (a4 : Int32) (s1 : Int32) (s2 : Int32) (m : rf_m) : Option (rf_m) := rf_g (rf_in s1 6) (rec3 a1 a2 (a4 + 1) (rf_i m 252 (Int32.toNatClampNeg s1) s2))
def g_X14_set__252_3_b (w : rf_w) (rec3 : Int32 → Int64 → Int32 → rf_m → Option (rf_m)) (a1 : Int32) (a2 : Int64) (a4 : Int32) (m : rf_m) : Option (rf_m) := (if 6 ≤ a4 then some m else (if a4 = 0 then g_X14_set__252_50 w rec3 a1 a2 a4 (a1 + a4) (Int64.toInt32 a2) m else (if a4 = 1 then g_X14_set__252_50 w rec3 a1 a2 a4 (a1 + a4) (Int64.toInt32 (a2 >>> (Int32.toInt64 32 &&& 63))) m else (if (0 : Int32) ≤ (lg_cmp a2 0) then g_X14_set__252_50 w rec3 a1 a2 a4 (a1 + a4) 0 m else g_X14_set__252_50 w rec3 a1 a2 a4 (a1 + a4) ((-1)) m))))
def g_X14_set__252_3 (w : rf_w) : Nat → Int32 → Int64 → Int32 → rf_m → Option (rf_m)
  | 0, _, _, _, _ => none
  | n + 1, a1, a2, a4, m => g_X14_set__252_3_b w (g_X14_set__252_3 w n) a1 a2 a4 m
def g_X14_set__252 (w : rf_w) (m : rf_m) (a1 : Int32) (a2 : Int64) : Option (rf_m) := g_X14_set__252_3 w rf_fuel a1 a2 0 m
theorem s_X14_set__252_50 {w : rf_w} {K : rf_K} {r : rf_m} (C : rf_Ctx 14 cX14_set 5 1 (rf_sh w) K) (hE : rf_End none K (rf_sh w) 0 0 none (rf_MM w r)) {rec3 : Int32 → Int64 → Int32 → rf_m → Option (rf_m)} (hr3 : ∀ (a1 : Int32) (a2 : Int64) (a4 : Int32) (m : rf_m), rec3 a1 a2 a4 m = some r → rf_V 5 (rf_sh w) K 0 0 3 ([(0, .ref 252), (1, .int a1), (2, .long a2), (4, .int a4)], [], rf_MM w m)) (a1 : Int32) (a2 : Int64) (a4 : Int32) (s1 : Int32) (s2 : Int32) (m : rf_m) (hg : g_X14_set__252_50 w rec3 a1 a2 a4 s1 s2 m = some r) : rf_V 5 (rf_sh w) K 0 0 50 ([(0, .ref 252), (1, .int a1), (2, .long a2), (4, .int a4)], [.int s2, .int s1, .ref 252], rf_MM w m) := by
  unfold g_X14_set__252_50 at hg
  obtain ⟨q0, hg⟩ := rf_g_some hg
  refine rf_seg C [(.iastore, 1), (.iinc 4 1, 3)] (pc' := 54) (S' := ([(4, .int (a4 + 1)), (0, .ref 252), (1, .int a1), (2, .long a2)], [], rf_MM w (rf_i m 252 (Int32.toNatClampNeg s1) s2))) (by decide +kernel) rfl (rf_in_of q0) ?_
  refine rf_goto C (-51) 3 (by decide +kernel) ?_
  refine rf_few [1, 2, 3, 0] rfl ?_
  exact hr3 a1 a2 (a4 + 1) (rf_i m 252 (Int32.toNatClampNeg s1) s2) hg
theorem s_X14_set__252_3_b {w : rf_w} {K : rf_K} {r : rf_m} (C : rf_Ctx 14 cX14_set 5 1 (rf_sh w) K) (hE : rf_End none K (rf_sh w) 0 0 none (rf_MM w r)) {rec3 : Int32 → Int64 → Int32 → rf_m → Option (rf_m)} (hr3 : ∀ (a1 : Int32) (a2 : Int64) (a4 : Int32) (m : rf_m), rec3 a1 a2 a4 m = some r → rf_V 5 (rf_sh w) K 0 0 3 ([(0, .ref 252), (1, .int a1), (2, .long a2), (4, .int a4)], [], rf_MM w m)) (a1 : Int32) (a2 : Int64) (a4 : Int32) (m : rf_m) (hg : g_X14_set__252_3_b w rec3 a1 a2 a4 m = some r) : rf_V 5 (rf_sh w) K 0 0 3 ([(0, .ref 252), (1, .int a1), (2, .long a2), (4, .int a4)], [], rf_MM w m) := by
  unfold g_X14_set__252_3_b at hg
  refine rf_seg C [(.iload 4, 2), (.iconst 6, 2)] (pc' := 7) (S' := ([(0, .ref 252), (1, .int a1), (2, .long a2), (4, .int a4)], [.int 6, .int a4], rf_MM w m)) (by decide +kernel) rfl trivial ?_
  refine rf_icmp_ge C 50 57 (by decide +kernel) (fun hc => ?_) (fun hc => ?_)
  · replace hg := (if_pos hc).symm.trans hg
    obtain rfl := Option.some.inj hg
    exact rf_vret C hE (by decide +kernel)
  · replace hg := (if_neg hc).symm.trans hg
    refine rf_seg C [(.aload 0, 1), (.iload 1, 1), (.iload 4, 2), (.iadd, 1), (.iload 4, 2)] (pc' := 17) (S' := ([(0, .ref 252), (1, .int a1), (2, .long a2), (4, .int a4)], [.int a4, .int (a1 + a4), .ref 252], rf_MM w m)) (by decide +kernel) rfl trivial ?_
    refine rf_if_ne C 8 25 (by decide +kernel) (fun hc => ?_) (fun hc => ?_)
    · replace hg := (if_neg hc).symm.trans hg
      refine rf_seg C [(.iload 4, 2), (.iconst 1, 1)] (pc' := 28) (S' := ([(0, .ref 252), (1, .int a1), (2, .long a2), (4, .int a4)], [.int 1, .int a4, .int (a1 + a4), .ref 252], rf_MM w m)) (by decide +kernel) rfl trivial ?_
      refine rf_icmp_ne C 11 39 (by decide +kernel) (fun hc => ?_) (fun hc => ?_)
      · replace hg := (if_neg hc).symm.trans hg
        refine rf_seg C [(.lload 2, 1), (.goto_w 0, 1), (.lcmp, 1)] (pc' := 42) (S' := ([(0, .ref 252), (1, .int a1), (2, .long a2), (4, .int a4)], [.int (lg_cmp a2 0), .int (a1 + a4), .ref 252], rf_MM w m)) (by decide +kernel) rfl trivial ?_
        refine rf_if_ge C 7 49 (by decide +kernel) (fun hc => ?_) (fun hc => ?_)
        · replace hg := (if_pos hc).symm.trans hg
          refine rf_seg C [(.iconst 0, 1)] (pc' := 50) (S' := ([(0, .ref 252), (1, .int a1), (2, .long a2), (4, .int a4)], [.int 0, .int (a1 + a4), .ref 252], rf_MM w m)) (by decide +kernel) rfl trivial ?_
          refine rf_few [0, 1, 2, 3] rfl ?_
          exact s_X14_set__252_50 C hE hr3 a1 a2 a4 (a1 + a4) 0 m hg
        · replace hg := (if_neg hc).symm.trans hg
          refine rf_seg C [(.iconst (-1), 1)] (pc' := 46) (S' := ([(0, .ref 252), (1, .int a1), (2, .long a2), (4, .int a4)], [.int ((-1)), .int (a1 + a4), .ref 252], rf_MM w m)) (by decide +kernel) rfl trivial ?_
          refine rf_goto C 4 50 (by decide +kernel) ?_
          refine rf_few [0, 1, 2, 3] rfl ?_
          exact s_X14_set__252_50 C hE hr3 a1 a2 a4 (a1 + a4) ((-1)) m hg
      · replace hg := (if_pos hc).symm.trans hg
        refine rf_seg C [(.lload 2, 1), (.iconst 32, 2), (.lshr, 1), (.l2i, 1)] (pc' := 36) (S' := ([(0, .ref 252), (1, .int a1), (2, .long a2), (4, .int a4)], [.int (Int64.toInt32 (a2 >>> (Int32.toInt64 32 &&& 63))), .int (a1 + a4), .ref 252], rf_MM w m)) (by decide +kernel) rfl trivial ?_
        refine rf_goto C 14 50 (by decide +kernel) ?_
        refine rf_few [0, 1, 2, 3] rfl ?_
        exact s_X14_set__252_50 C hE hr3 a1 a2 a4 (a1 + a4) (Int64.toInt32 (a2 >>> (Int32.toInt64 32 &&& 63))) m hg
    · replace hg := (if_pos hc).symm.trans hg
      refine rf_seg C [(.lload 2, 1), (.l2i, 1)] (pc' := 22) (S' := ([(0, .ref 252), (1, .int a1), (2, .long a2), (4, .int a4)], [.int (Int64.toInt32 a2), .int (a1 + a4), .ref 252], rf_MM w m)) (by decide +kernel) rfl trivial ?_
      refine rf_goto C 28 50 (by decide +kernel) ?_
      refine rf_few [0, 1, 2, 3] rfl ?_
      exact s_X14_set__252_50 C hE hr3 a1 a2 a4 (a1 + a4) (Int64.toInt32 a2) m hg
theorem s_X14_set__252_3 {w : rf_w} {K : rf_K} {r : rf_m} (C : rf_Ctx 14 cX14_set 5 1 (rf_sh w) K) (hE : rf_End none K (rf_sh w) 0 0 none (rf_MM w r)) (n : Nat) : ∀ (a1 : Int32) (a2 : Int64) (a4 : Int32) (m : rf_m), g_X14_set__252_3 w n a1 a2 a4 m = some r → rf_V 5 (rf_sh w) K 0 0 3 ([(0, .ref 252), (1, .int a1), (2, .long a2), (4, .int a4)], [], rf_MM w m) := by
  induction n with
  | zero => intro a1 a2 a4 m hg; cases hg
  | succ n ih => intro a1 a2 a4 m hg; exact s_X14_set__252_3_b C hE ih a1 a2 a4 m hg
theorem c_X14_set__252 {w : rf_w} {m : rf_m} {a1 : Int32} {a2 : Int64} {r : rf_m} (hg : g_X14_set__252 w m a1 a2 = some r) : rf_Con j_X14_set__252 1 (rf_sh w) [.ref 252, .int a1, .long a2] (rf_MM w m) none (rf_MM w r) := by
  refine rf_con j_X14_set__252 1 ⟨by decide +kernel, rfl, Nat.le_of_ble_eq_true rfl⟩ (fun K C hE => ?_)
  unfold g_X14_set__252 at hg
  show rf_V 5 (rf_sh w) K 0 0 0 ([(0, .ref 252), (1, .int a1), (2, .long a2)], [], rf_MM w m)
  refine rf_seg C [(.iconst 0, 1), (.istore 4, 2)] (pc' := 3) (S' := ([(4, .int 0), (0, .ref 252), (1, .int a1), (2, .long a2)], [], rf_MM w m)) (by decide +kernel) rfl trivial ?_
  refine rf_few [1, 2, 3, 0] rfl ?_
  exact s_X14_set__252_3 C hE rf_fuel a1 a2 0 m hg
-- X14_adjust
abbrev j_X14_adjust : rf_J := (14, yX14_adjust, cX14_adjust, 9, (some .int))
theorem mw_X14_adjust : rf_mv j_X14_adjust (rf_R 14) 2 := ⟨⟨rf_mem 70 (by decide +kernel), rf_mem 70 (by decide +kernel), rf_mem 0 (by decide +kernel), rf_mem 70 (by decide +kernel)⟩, by decide +kernel, by decide⟩
def g_X14_adjust_718_b (w : rf_w) (rec718 : Int32 → Int32 → rf_m → Option (Int32 × rf_m)) (a5 : Int32) (a6 : Int32) (m : rf_m) : Option (Int32 × rf_m) := (if 80 ≤ a6 then rf_b (g_X14_done w (rf_i m 206 88 1) a5) fun y0 m0 => some (y0, m0) else rf_g (rf_in a6 80) (rec718 a5 (a6 + 1) (rf_i m 263 (Int32.toNatClampNeg a6) (vp_nar .boolean 0))))
def g_X14_adjust_718 (w : rf_w) : Nat → Int32 → Int32 → rf_m → Option (Int32 × rf_m)
  | 0, _, _, _ => none
  | n + 1, a5, a6, m => g_X14_adjust_718_b w (g_X14_adjust_718 w n) a5 a6 m
def g_X14_adjust_703 (w : rf_w) (rec557 : Int32 → Int32 → Int32 → rf_m → Option (Int32 × rf_m)) (a3 : Int32) (a6 : Int32) (s0 : Int32) (s1 : Int32) (m : rf_m) : Option (Int32 × rf_m) := rec557 a3 (s0 + s1) (a6 + 1) m
def g_X14_adjust_639 (w : rf_w) (rec557 : Int32 → Int32 → Int32 → rf_m → Option (Int32 × rf_m)) (rec590 : Int32 → Int32 → Int32 → Int32 → rf_m → Option (Int32 × rf_m)) (a3 : Int32) (a5 : Int32) (a6 : Int32) (a7 : Int32) (m : rf_m) : Option (Int32 × rf_m) := rec590 a3 a5 a6 (a7 + 1) m
def g_X14_adjust_590_b (w : rf_w) (rec557 : Int32 → Int32 → Int32 → rf_m → Option (Int32 × rf_m)) (rec590 : Int32 → Int32 → Int32 → Int32 → rf_m → Option (Int32 × rf_m)) (a3 : Int32) (a5 : Int32) (a6 : Int32) (a7 : Int32) (m : rf_m) : Option (Int32 × rf_m) := (if a3 ≤ a7 then rf_g (rf_in a6 80) (rf_bv (g_X14_times__257_264 w m 0 (6 * a6) (m.1 265 (Int32.toNatClampNeg a6))) fun m1 => rf_bv (g_X14_copies__264_257 w m1 (6 * a6) 0) fun m2 => rf_g (rf_in a6 80) ((if (m2.1 263 (Int32.toNatClampNeg a6)) = 0 then g_X14_adjust_703 w rec557 a3 a6 a5 0 m2 else g_X14_adjust_703 w rec557 a3 a6 a5 1 m2))) else rf_b (g_X14_isPartOf w m a7 a6) fun y4 m4 => (if y4 = 0 then g_X14_adjust_639 w rec557 rec590 a3 a5 a6 a7 m4 else rf_g (rf_in a6 80) (rf_bv (g_X14_adds__264_258 w (rf_i m4 263 (Int32.toNatClampNeg a6) (vp_nar .boolean 1)) (6 * a6) (6 * a7)) fun m6 => g_X14_adjust_639 w rec557 rec590 a3 a5 a6 a7 m6)))
def g_X14_adjust_590 (w : rf_w) (rec557 : Int32 → Int32 → Int32 → rf_m → Option (Int32 × rf_m)) : Nat → Int32 → Int32 → Int32 → Int32 → rf_m → Option (Int32 × rf_m)
  | 0, _, _, _, _, _ => none
  | n + 1, a3, a5, a6, a7, m => g_X14_adjust_590_b w rec557 (g_X14_adjust_590 w rec557 n) a3 a5 a6 a7 m
def g_X14_adjust_557_b (w : rf_w) (rec557 : Int32 → Int32 → Int32 → rf_m → Option (Int32 × rf_m)) (a3 : Int32) (a5 : Int32) (a6 : Int32) (m : rf_m) : Option (Int32 × rf_m) := (if (m.1 206 16) ≤ a6 then g_X14_adjust_718 w rf_fuel a5 (m.1 206 16) m else rf_bv (g_X14_set__264 w m (6 * a6) 0) fun m0 => rf_g (rf_in a6 80) (g_X14_adjust_590 w rec557 rf_fuel a3 a5 a6 0 (rf_i m0 263 (Int32.toNatClampNeg a6) (vp_nar .boolean 0))))
def g_X14_adjust_557 (w : rf_w) : Nat → Int32 → Int32 → Int32 → rf_m → Option (Int32 × rf_m)
  | 0, _, _, _, _ => none
  | n + 1, a3, a5, a6, m => g_X14_adjust_557_b w (g_X14_adjust_557 w n) a3 a5 a6 m
def g_X14_adjust_548 (w : rf_w) (a3 : Int32) (s1 : Int64) (m : rf_m) : Option (Int32 × rf_m) := g_X14_adjust_557 w rf_fuel a3 0 0 (rf_l m 206 89 s1)
def g_X14_adjust_432_b (w : rf_w) (rec432 : Int32 → Int32 → rf_m → Option (Int32 × rf_m)) (a3 : Int32) (a5 : Int32) (m : rf_m) : Option (Int32 × rf_m) := (if a3 ≤ a5 then rf_bv (g_X14_times__257_252 w m 0 0 2520000) fun m0 => rf_bv (g_X14_copies__252_257 w m0 0 0) fun m1 => rf_bv (g_X14_floors w m1) fun m2 => rf_b (g_X14_isLong w m2) fun y3 m3 => (if y3 = 0 then g_X14_adjust_548 w a3 ((-9223372036854775808)) m3 else rf_b (g_X14_quotientLong w m3) fun y4 m4 => g_X14_adjust_548 w a3 y4 m4) else rf_bv (g_X14_determinant__258 w m a3 a5 (6 * a5)) fun m5 => rf_g (rf_in a5 6) (rf_bv (g_X14_times__257_258 w m5 0 (6 * a5) (m5.1 255 (Int32.toNatClampNeg a5))) fun m7 => rf_bv (g_X14_adds__252_257 w m7 0 0) fun m8 => rec432 a3 (a5 + 1) m8))
def g_X14_adjust_432 (w : rf_w) : Nat → Int32 → Int32 → rf_m → Option (Int32 × rf_m)
  | 0, _, _, _ => none
  | n + 1, a3, a5, m => g_X14_adjust_432_b w (g_X14_adjust_432 w n) a3 a5 m
def g_X14_adjust_329 (w : rf_w) (rec264 : Int32 → Int32 → rf_m → Option (Int32 × rf_m)) (rec273 : Int32 → Int32 → Int32 → rf_m → Option (Int32 × rf_m)) (rec285 : Int32 → Int32 → Int32 → Int32 → Int32 → rf_m → Option (Int32 × rf_m)) (a3 : Int32) (a5 : Int32) (a6 : Int32) (a8 : Int32) (s0 : Int32) (s1 : Int32) (m : rf_m) : Option (Int32 × rf_m) := rec285 a3 a5 a6 (s0 + s1) (a8 + 1) m
def g_X14_adjust_328 (w : rf_w) (rec264 : Int32 → Int32 → rf_m → Option (Int32 × rf_m)) (rec273 : Int32 → Int32 → Int32 → rf_m → Option (Int32 × rf_m)) (rec285 : Int32 → Int32 → Int32 → Int32 → Int32 → rf_m → Option (Int32 × rf_m)) (a3 : Int32) (a5 : Int32) (a6 : Int32) (a8 : Int32) (s0 : Int32) (m : rf_m) : Option (Int32 × rf_m) := g_X14_adjust_329 w rec264 rec273 rec285 a3 a5 a6 a8 s0 0 m
def g_X14_adjust_285_b (w : rf_w) (rec264 : Int32 → Int32 → rf_m → Option (Int32 × rf_m)) (rec273 : Int32 → Int32 → Int32 → rf_m → Option (Int32 × rf_m)) (rec285 : Int32 → Int32 → Int32 → Int32 → Int32 → rf_m → Option (Int32 × rf_m)) (a3 : Int32) (a5 : Int32) (a6 : Int32) (a7 : Int32) (a8 : Int32) (m : rf_m) : Option (Int32 × rf_m) := (if (m.1 206 16) ≤ a8 then rf_g (rf_in ((6 * a5) + a6) 36) (rec273 a3 a5 (a6 + 1) (rf_i m 254 (Int32.toNatClampNeg ((6 * a5) + a6)) a7)) else rf_b (g_X14_isPartOf w m a5 a8) fun y1 m1 => (if y1 = 0 then g_X14_adjust_328 w rec264 rec273 rec285 a3 a5 a6 a8 a7 m1 else rf_b (g_X14_isPartOf w m1 a6 a8) fun y2 m2 => (if y2 = 0 then g_X14_adjust_328 w rec264 rec273 rec285 a3 a5 a6 a8 a7 m2 else rf_g (rf_in a8 80) (g_X14_adjust_329 w rec264 rec273 rec285 a3 a5 a6 a8 a7 (m2.1 265 (Int32.toNatClampNeg a8)) m2))))
def g_X14_adjust_285 (w : rf_w) (rec264 : Int32 → Int32 → rf_m → Option (Int32 × rf_m)) (rec273 : Int32 → Int32 → Int32 → rf_m → Option (Int32 × rf_m)) : Nat → Int32 → Int32 → Int32 → Int32 → Int32 → rf_m → Option (Int32 × rf_m)
  | 0, _, _, _, _, _, _ => none
  | n + 1, a3, a5, a6, a7, a8, m => g_X14_adjust_285_b w rec264 rec273 (g_X14_adjust_285 w rec264 rec273 n) a3 a5 a6 a7 a8 m
def g_X14_adjust_273_b (w : rf_w) (rec264 : Int32 → Int32 → rf_m → Option (Int32 × rf_m)) (rec273 : Int32 → Int32 → Int32 → rf_m → Option (Int32 × rf_m)) (a3 : Int32) (a5 : Int32) (a6 : Int32) (m : rf_m) : Option (Int32 × rf_m) := (if a3 ≤ a6 then rec264 a3 (a5 + 1) m else g_X14_adjust_285 w rec264 rec273 rf_fuel a3 a5 a6 0 0 m)
def g_X14_adjust_273 (w : rf_w) (rec264 : Int32 → Int32 → rf_m → Option (Int32 × rf_m)) : Nat → Int32 → Int32 → Int32 → rf_m → Option (Int32 × rf_m)
  | 0, _, _, _, _ => none
  | n + 1, a3, a5, a6, m => g_X14_adjust_273_b w rec264 (g_X14_adjust_273 w rec264 n) a3 a5 a6 m
def g_X14_adjust_264_b (w : rf_w) (rec264 : Int32 → Int32 → rf_m → Option (Int32 × rf_m)) (a3 : Int32) (a5 : Int32) (m : rf_m) : Option (Int32 × rf_m) := (if a3 ≤ a5 then rf_bv (g_X14_determinant__260 w m a3 ((-1)) 0) fun m0 => rf_b (g_X14_isZero__260 w m0 0) fun y1 m1 => (if y1 = 0 then rf_bv (g_X14_copies__259_260 w m1 0 0) fun m2 => rf_bv (g_X14_copies__253_259 w m2 0 0) fun m3 => rf_bv (g_X14_set__252 w m3 0 0) fun m4 => g_X14_adjust_432 w rf_fuel a3 0 m4 else rf_b (g_X14_refused w m1 6) fun y5 m5 => some (y5, m5)) else g_X14_adjust_273 w rec264 rf_fuel a3 a5 0 m)
def g_X14_adjust_264 (w : rf_w) : Nat → Int32 → Int32 → rf_m → Option (Int32 × rf_m)
  | 0, _, _, _ => none
  | n + 1, a3, a5, m => g_X14_adjust_264_b w (g_X14_adjust_264 w n) a3 a5 m
def g_X14_adjust_229_b (w : rf_w) (rec229 : Int32 → Int32 → rf_m → Option (Int32 × rf_m)) (a3 : Int32) (a5 : Int32) (m : rf_m) : Option (Int32 × rf_m) := (if (m.1 206 16) ≤ a5 then g_X14_adjust_264 w rf_fuel a3 0 m else rf_b (g_X14_weightOf w m a5) fun y0 m0 => rf_g (rf_nz y0) (rf_g (rf_in a5 80) (rec229 a3 (a5 + 1) (rf_i m0 265 (Int32.toNatClampNeg a5) (2520 / y0)))))
def g_X14_adjust_229 (w : rf_w) : Nat → Int32 → Int32 → rf_m → Option (Int32 × rf_m)
  | 0, _, _, _ => none
  | n + 1, a3, a5, m => g_X14_adjust_229_b w (g_X14_adjust_229 w n) a3 a5 m
def g_X14_adjust_209 (w : rf_w) (rec80 : Int32 → Int32 → Int32 → Int32 → Int32 → rf_m → Option (Int32 × rf_m)) (a1 : Int32) (a2 : Int32) (a3 : Int32) (a4 : Int32) (a5 : Int32) (m : rf_m) : Option (Int32 × rf_m) := rec80 a1 a2 a3 a4 (a5 + 1) m
def g_X14_adjust_191 (w : rf_w) (rec80 : Int32 → Int32 → Int32 → Int32 → Int32 → rf_m → Option (Int32 × rf_m)) (a1 : Int32) (a2 : Int32) (a3 : Int32) (a5 : Int32) (s0 : Int32) (m : rf_m) : Option (Int32 × rf_m) := rf_g (rf_in a3 6) (rf_g (rf_in a3 6) (g_X14_adjust_209 w rec80 a1 a2 (a3 + 1) s0 a5 (rf_i m 255 (Int32.toNatClampNeg a3) (-(m.1 255 (Int32.toNatClampNeg a3))))))
def g_X14_adjust_190 (w : rf_w) (rec80 : Int32 → Int32 → Int32 → Int32 → Int32 → rf_m → Option (Int32 × rf_m)) (a1 : Int32) (a2 : Int32) (a3 : Int32) (a5 : Int32) (m : rf_m) : Option (Int32 × rf_m) := g_X14_adjust_191 w rec80 a1 a2 a3 a5 0 m
def g_X14_adjust_128 (w : rf_w) (rec80 : Int32 → Int32 → Int32 → Int32 → Int32 → rf_m → Option (Int32 × rf_m)) (a1 : Int32) (a2 : Int32) (a3 : Int32) (a4 : Int32) (a5 : Int32) (a6 : Int32) (a7 : Int32) (s0 : Int32) (m : rf_m) : Option (Int32 × rf_m) := (if ((s0 >>> (a7 &&& 31)) &&& 1) = 0 then g_X14_adjust_209 w rec80 a1 a2 a3 a4 a5 m else rf_g (rf_in a3 6) (rf_g (rf_in a3 6) (rf_b (g_X14_missOf w (rf_i (rf_i m 261 (Int32.toNatClampNeg a3) a7) 262 (Int32.toNatClampNeg a3) (vp_nar .boolean a6)) a7 a6) fun y2 m2 => rf_g (rf_in a3 6) ((if a4 = 0 then g_X14_adjust_190 w rec80 a1 a2 a3 a5 (rf_i m2 255 (Int32.toNatClampNeg a3) y2) else rf_g (rf_in a3 6) ((if ((rf_i m2 255 (Int32.toNatClampNeg a3) y2).1 255 (Int32.toNatClampNeg a3)) = ((-2147483648)) then g_X14_adjust_190 w rec80 a1 a2 a3 a5 (rf_i m2 255 (Int32.toNatClampNeg a3) y2) else g_X14_adjust_191 w rec80 a1 a2 a3 a5 1 (rf_i m2 255 (Int32.toNatClampNeg a3) y2))))))))
def g_X14_adjust_116 (w : rf_w) (rec80 : Int32 → Int32 → Int32 → Int32 → Int32 → rf_m → Option (Int32 × rf_m)) (a1 : Int32) (a2 : Int32) (a3 : Int32) (a4 : Int32) (a5 : Int32) (a6 : Int32) (s0 : Int32) (m : rf_m) : Option (Int32 × rf_m) := (if a6 = 0 then g_X14_adjust_128 w rec80 a1 a2 a3 a4 a5 a6 s0 a1 m else g_X14_adjust_128 w rec80 a1 a2 a3 a4 a5 a6 s0 a2 m)
def g_X14_adjust_99 (w : rf_w) (rec80 : Int32 → Int32 → Int32 → Int32 → Int32 → rf_m → Option (Int32 × rf_m)) (a1 : Int32) (a2 : Int32) (a3 : Int32) (a4 : Int32) (a5 : Int32) (s0 : Int32) (m : rf_m) : Option (Int32 × rf_m) := (if s0 = 0 then g_X14_adjust_116 w rec80 a1 a2 a3 a4 a5 s0 a5 m else g_X14_adjust_116 w rec80 a1 a2 a3 a4 a5 s0 (a5 - 30) m)
def g_X14_adjust_80_b (w : rf_w) (rec80 : Int32 → Int32 → Int32 → Int32 → Int32 → rf_m → Option (Int32 × rf_m)) (a1 : Int32) (a2 : Int32) (a3 : Int32) (a4 : Int32) (a5 : Int32) (m : rf_m) : Option (Int32 × rf_m) := (if 42 ≤ a5 then (if a4 = 0 then rf_b (g_X14_refused w m 5) fun y0 m0 => some (y0, m0) else g_X14_adjust_229 w rf_fuel a3 0 m) else (if a5 < 30 then g_X14_adjust_99 w rec80 a1 a2 a3 a4 a5 0 m else g_X14_adjust_99 w rec80 a1 a2 a3 a4 a5 1 m))
def g_X14_adjust_80 (w : rf_w) : Nat → Int32 → Int32 → Int32 → Int32 → Int32 → rf_m → Option (Int32 × rf_m)
  | 0, _, _, _, _, _, _ => none
  | n + 1, a1, a2, a3, a4, a5, m => g_X14_adjust_80_b w (g_X14_adjust_80 w n) a1 a2 a3 a4 a5 m
def g_X14_adjust_47 (w : rf_w) (a1 : Int32) (a2 : Int32) (m : rf_m) : Option (Int32 × rf_m) := rf_b (g_X14_bits w m a1) fun y0 m0 => rf_b (g_X14_bits w m0 a2) fun y1 m1 => (if (y0 + y1) ≤ 6 then rf_bv (g_X14_allMeans w m1) fun m2 => g_X14_adjust_80 w rf_fuel a1 a2 0 1 0 m2 else rf_b (g_X14_refused w m1 7) fun y3 m3 => some (y3, m3))
def g_X14_adjust (w : rf_w) (m : rf_m) (a1 : Int32) (a2 : Int32) : Option (Int32 × rf_m) := (if a1 < 0 then rf_b (g_X14_refused w (rf_i m 206 0 0) 1) fun y0 m0 => some (y0, m0) else (if (1 <<< (((rf_i m 206 0 0).1 206 64) &&& 31)) ≤ a1 then rf_b (g_X14_refused w (rf_i m 206 0 0) 1) fun y1 m1 => some (y1, m1) else (if a2 < 0 then rf_b (g_X14_refused w (rf_i m 206 0 0) 1) fun y2 m2 => some (y2, m2) else (if (1 <<< (((rf_i m 206 0 0).1 206 65) &&& 31)) ≤ a2 then rf_b (g_X14_refused w (rf_i m 206 0 0) 1) fun y3 m3 => some (y3, m3) else (if a1 = 0 then (if a2 = 0 then rf_b (g_X14_refused w (rf_i m 206 0 0) 1) fun y4 m4 => some (y4, m4) else g_X14_adjust_47 w a1 a2 (rf_i m 206 0 0)) else g_X14_adjust_47 w a1 a2 (rf_i m 206 0 0))))))
theorem s_X14_adjust_718_b {w : rf_w} {K : rf_K} {r : Int32 × rf_m} (C : rf_Ctx 14 cX14_adjust 9 10 (rf_sh w) K) (hE : rf_End (some .int) K (rf_sh w) 0 0 (some (.int r.1)) (rf_MM w r.2)) {rec718 : Int32 → Int32 → rf_m → Option (Int32 × rf_m)} (hr718 : ∀ (a5 : Int32) (a6 : Int32) (m : rf_m), rec718 a5 a6 m = some r → rf_V 9 (rf_sh w) K 0 0 718 ([(0, .ref 206), (5, .int a5), (6, .int a6)], [], rf_MM w m)) (a5 : Int32) (a6 : Int32) (m : rf_m) (hg : g_X14_adjust_718_b w rec718 a5 a6 m = some r) : rf_V 9 (rf_sh w) K 0 0 718 ([(0, .ref 206), (5, .int a5), (6, .int a6)], [], rf_MM w m) := by
  unfold g_X14_adjust_718_b at hg
  refine rf_seg C [(.iload 6, 2), (.iconst 80, 2)] (pc' := 722) (S' := ([(0, .ref 206), (5, .int a5), (6, .int a6)], [.int 80, .int a6], rf_MM w m)) (by decide +kernel) rfl trivial ?_
  refine rf_icmp_ge C 17 739 (by decide +kernel) (fun hc => ?_) (fun hc => ?_)
  · replace hg := (if_pos hc).symm.trans hg
    refine rf_seg C [(.aload 0, 1), (.iconst 1, 1), (.multianewarray 14 88, 3), (.aload 0, 1), (.iload 5, 2)] (pc' := 747) (S' := ([(0, .ref 206), (5, .int a5), (6, .int a6)], [.int a5, .ref 206], rf_MM w (rf_i m 206 88 1))) (by decide +kernel) rfl (rf_01_of (by decide)) ?_
    obtain ⟨y0, m0, hc0, hg⟩ := rf_b_some hg
    refine rf_callv C rf_fit0 j_X14_done (ci := 14) (As := [.int a5]) (rest := []) mw_X14_done (c_X14_done hc0) (by decide) rfl (by decide) lk_14_357 rfl rfl (Nat.le_of_ble_eq_true rfl) (by decide +kernel) ?_
    show rf_V 9 (rf_sh w) K 0 0 750 ([(0, .ref 206), (5, .int a5), (6, .int a6)], [.int y0], rf_MM w m0)
    obtain rfl := Option.some.inj hg
    exact rf_iret C hE (by decide +kernel)
  · replace hg := (if_neg hc).symm.trans hg
    obtain ⟨q1, hg⟩ := rf_g_some hg
    refine rf_seg C [(.aload 0, 1), (.invokeinterface 14 86, 3), (.iload 6, 2), (.iconst 0, 1), (.bastore, 1), (.iinc 6 1, 3)] (pc' := 736) (S' := ([(6, .int (a6 + 1)), (0, .ref 206), (5, .int a5)], [], rf_MM w (rf_i m 263 (Int32.toNatClampNeg a6) (vp_nar .boolean 0)))) (by decide +kernel) rfl (rf_in_of q1) ?_
    refine rf_goto C (-18) 718 (by decide +kernel) ?_
    refine rf_few [1, 2, 0] rfl ?_
    exact hr718 a5 (a6 + 1) (rf_i m 263 (Int32.toNatClampNeg a6) (vp_nar .boolean 0)) hg
theorem s_X14_adjust_718 {w : rf_w} {K : rf_K} {r : Int32 × rf_m} (C : rf_Ctx 14 cX14_adjust 9 10 (rf_sh w) K) (hE : rf_End (some .int) K (rf_sh w) 0 0 (some (.int r.1)) (rf_MM w r.2)) (n : Nat) : ∀ (a5 : Int32) (a6 : Int32) (m : rf_m), g_X14_adjust_718 w n a5 a6 m = some r → rf_V 9 (rf_sh w) K 0 0 718 ([(0, .ref 206), (5, .int a5), (6, .int a6)], [], rf_MM w m) := by
  induction n with
  | zero => intro a5 a6 m hg; cases hg
  | succ n ih => intro a5 a6 m hg; exact s_X14_adjust_718_b C hE ih a5 a6 m hg
theorem s_X14_adjust_703 {w : rf_w} {K : rf_K} {r : Int32 × rf_m} (C : rf_Ctx 14 cX14_adjust 9 10 (rf_sh w) K) (hE : rf_End (some .int) K (rf_sh w) 0 0 (some (.int r.1)) (rf_MM w r.2)) {rec557 : Int32 → Int32 → Int32 → rf_m → Option (Int32 × rf_m)} (hr557 : ∀ (a3 : Int32) (a5 : Int32) (a6 : Int32) (m : rf_m), rec557 a3 a5 a6 m = some r → rf_V 9 (rf_sh w) K 0 0 557 ([(0, .ref 206), (3, .int a3), (5, .int a5), (6, .int a6)], [], rf_MM w m)) (a3 : Int32) (a6 : Int32) (s0 : Int32) (s1 : Int32) (m : rf_m) (hg : g_X14_adjust_703 w rec557 a3 a6 s0 s1 m = some r) : rf_V 9 (rf_sh w) K 0 0 703 ([(0, .ref 206), (3, .int a3), (6, .int a6)], [.int s1, .int s0], rf_MM w m) := by
  unfold g_X14_adjust_703 at hg
  refine rf_seg C [(.iadd, 1), (.istore 5, 2), (.iinc 6 1, 3)] (pc' := 709) (S' := ([(6, .int (a6 + 1)), (5, .int (s0 + s1)), (0, .ref 206), (3, .int a3)], [], rf_MM w m)) (by decide +kernel) rfl trivial ?_
  refine rf_goto C (-152) 557 (by decide +kernel) ?_
  refine rf_few [2, 3, 1, 0] rfl ?_
  exact hr557 a3 (s0 + s1) (a6 + 1) m hg
theorem s_X14_adjust_639 {w : rf_w} {K : rf_K} {r : Int32 × rf_m} (C : rf_Ctx 14 cX14_adjust 9 10 (rf_sh w) K) (hE : rf_End (some .int) K (rf_sh w) 0 0 (some (.int r.1)) (rf_MM w r.2)) {rec557 : Int32 → Int32 → Int32 → rf_m → Option (Int32 × rf_m)} {rec590 : Int32 → Int32 → Int32 → Int32 → rf_m → Option (Int32 × rf_m)} (hr557 : ∀ (a3 : Int32) (a5 : Int32) (a6 : Int32) (m : rf_m), rec557 a3 a5 a6 m = some r → rf_V 9 (rf_sh w) K 0 0 557 ([(0, .ref 206), (3, .int a3), (5, .int a5), (6, .int a6)], [], rf_MM w m)) (hr590 : ∀ (a3 : Int32) (a5 : Int32) (a6 : Int32) (a7 : Int32) (m : rf_m), rec590 a3 a5 a6 a7 m = some r → rf_V 9 (rf_sh w) K 0 0 590 ([(0, .ref 206), (3, .int a3), (5, .int a5), (6, .int a6), (7, .int a7)], [], rf_MM w m)) (a3 : Int32) (a5 : Int32) (a6 : Int32) (a7 : Int32) (m : rf_m) (hg : g_X14_adjust_639 w rec557 rec590 a3 a5 a6 a7 m = some r) : rf_V 9 (rf_sh w) K 0 0 639 ([(0, .ref 206), (3, .int a3), (5, .int a5), (6, .int a6), (7, .int a7)], [], rf_MM w m) := by
  unfold g_X14_adjust_639 at hg
  refine rf_seg C [(.iinc 7 1, 3)] (pc' := 642) (S' := ([(7, .int (a7 + 1)), (0, .ref 206), (3, .int a3), (5, .int a5), (6, .int a6)], [], rf_MM w m)) (by decide +kernel) rfl trivial ?_
  refine rf_goto C (-52) 590 (by decide +kernel) ?_
  refine rf_few [1, 2, 3, 4, 0] rfl ?_
  exact hr590 a3 a5 a6 (a7 + 1) m hg
theorem s_X14_adjust_590_b {w : rf_w} {K : rf_K} {r : Int32 × rf_m} (C : rf_Ctx 14 cX14_adjust 9 10 (rf_sh w) K) (hE : rf_End (some .int) K (rf_sh w) 0 0 (some (.int r.1)) (rf_MM w r.2)) {rec557 : Int32 → Int32 → Int32 → rf_m → Option (Int32 × rf_m)} {rec590 : Int32 → Int32 → Int32 → Int32 → rf_m → Option (Int32 × rf_m)} (hr557 : ∀ (a3 : Int32) (a5 : Int32) (a6 : Int32) (m : rf_m), rec557 a3 a5 a6 m = some r → rf_V 9 (rf_sh w) K 0 0 557 ([(0, .ref 206), (3, .int a3), (5, .int a5), (6, .int a6)], [], rf_MM w m)) (hr590 : ∀ (a3 : Int32) (a5 : Int32) (a6 : Int32) (a7 : Int32) (m : rf_m), rec590 a3 a5 a6 a7 m = some r → rf_V 9 (rf_sh w) K 0 0 590 ([(0, .ref 206), (3, .int a3), (5, .int a5), (6, .int a6), (7, .int a7)], [], rf_MM w m)) (a3 : Int32) (a5 : Int32) (a6 : Int32) (a7 : Int32) (m : rf_m) (hg : g_X14_adjust_590_b w rec557 rec590 a3 a5 a6 a7 m = some r) : rf_V 9 (rf_sh w) K 0 0 590 ([(0, .ref 206), (3, .int a3), (5, .int a5), (6, .int a6), (7, .int a7)], [], rf_MM w m) := by
  unfold g_X14_adjust_590_b at hg
  refine rf_seg C [(.iload 7, 2), (.iload 3, 1)] (pc' := 593) (S' := ([(0, .ref 206), (3, .int a3), (5, .int a5), (6, .int a6), (7, .int a7)], [.int a3, .int a7], rf_MM w m)) (by decide +kernel) rfl trivial ?_
  refine rf_icmp_ge C 52 645 (by decide +kernel) (fun hc => ?_) (fun hc => ?_)
  · replace hg := (if_pos hc).symm.trans hg
    obtain ⟨q0, hg⟩ := rf_g_some hg
    refine rf_seg C [(.aload 0, 1), (.invokeinterface 14 80, 3), (.iconst 0, 1), (.aload 0, 1), (.invokeinterface 14 87, 3), (.iconst 6, 2), (.iload 6, 2), (.imul, 1), (.aload 0, 1), (.invokeinterface 14 90, 3), (.iload 6, 2), (.iaload, 1)] (pc' := 666) (S' := ([(0, .ref 206), (3, .int a3), (5, .int a5), (6, .int a6), (7, .int a7)], [.int (m.1 265 (Int32.toNatClampNeg a6)), .int (6 * a6), .ref 264, .int 0, .ref 257], rf_MM w m)) (by decide +kernel) rfl (rf_in_of q0) ?_
    obtain ⟨m1, hc1, hg⟩ := rf_bv_some hg
    refine rf_calls C rf_fit0 j_X14_times__257_264 (As := [.ref 257, .int 0, .ref 264, .int (6 * a6), .int (m.1 265 (Int32.toNatClampNeg a6))]) (rest := []) mw_X14_times__257_264 (c_X14_times__257_264 hc1) (by decide) lk_14_770 rfl rfl (Nat.le_of_ble_eq_true rfl) (by decide +kernel) ?_
    show rf_V 9 (rf_sh w) K 0 0 669 ([(0, .ref 206), (3, .int a3), (5, .int a5), (6, .int a6), (7, .int a7)], [], rf_MM w m1)
    refine rf_seg C [(.aload 0, 1), (.invokeinterface 14 87, 3), (.iconst 6, 2), (.iload 6, 2), (.imul, 1), (.aload 0, 1), (.invokeinterface 14 80, 3), (.iconst 0, 1)] (pc' := 683) (S' := ([(0, .ref 206), (3, .int a3), (5, .int a5), (6, .int a6), (7, .int a7)], [.int 0, .ref 257, .int (6 * a6), .ref 264], rf_MM w m1)) (by decide +kernel) rfl trivial ?_
    obtain ⟨m2, hc2, hg⟩ := rf_bv_some hg
    refine rf_calls C rf_fit0 j_X14_copies__264_257 (As := [.ref 264, .int (6 * a6), .ref 257, .int 0]) (rest := []) mw_X14_copies__264_257 (c_X14_copies__264_257 hc2) (by decide) lk_14_744 rfl rfl (Nat.le_of_ble_eq_true rfl) (by decide +kernel) ?_
    show rf_V 9 (rf_sh w) K 0 0 686 ([(0, .ref 206), (3, .int a3), (5, .int a5), (6, .int a6), (7, .int a7)], [], rf_MM w m2)
    obtain ⟨q3, hg⟩ := rf_g_some hg
    refine rf_seg C [(.iload 5, 2), (.aload 0, 1), (.invokeinterface 14 86, 3), (.iload 6, 2), (.baload, 1)] (pc' := 695) (S' := ([(0, .ref 206), (3, .int a3), (5, .int a5), (6, .int a6), (7, .int a7)], [.int (m2.1 263 (Int32.toNatClampNeg a6)), .int a5], rf_MM w m2)) (by decide +kernel) rfl (rf_in_of q3) ?_
    refine rf_if_eq C 7 702 (by decide +kernel) (fun hc => ?_) (fun hc => ?_)
    · replace hg := (if_pos hc).symm.trans hg
      refine rf_seg C [(.iconst 0, 1)] (pc' := 703) (S' := ([(0, .ref 206), (3, .int a3), (5, .int a5), (6, .int a6), (7, .int a7)], [.int 0, .int a5], rf_MM w m2)) (by decide +kernel) rfl trivial ?_
      refine rf_few [0, 1, 3] rfl ?_
      exact s_X14_adjust_703 C hE hr557 a3 a6 a5 0 m2 hg
    · replace hg := (if_neg hc).symm.trans hg
      refine rf_seg C [(.iconst 1, 1)] (pc' := 699) (S' := ([(0, .ref 206), (3, .int a3), (5, .int a5), (6, .int a6), (7, .int a7)], [.int 1, .int a5], rf_MM w m2)) (by decide +kernel) rfl trivial ?_
      refine rf_goto C 4 703 (by decide +kernel) ?_
      refine rf_few [0, 1, 3] rfl ?_
      exact s_X14_adjust_703 C hE hr557 a3 a6 a5 1 m2 hg
  · replace hg := (if_neg hc).symm.trans hg
    refine rf_seg C [(.aload 0, 1), (.iload 7, 2), (.iload 6, 2)] (pc' := 601) (S' := ([(0, .ref 206), (3, .int a3), (5, .int a5), (6, .int a6), (7, .int a7)], [.int a6, .int a7, .ref 206], rf_MM w m)) (by decide +kernel) rfl trivial ?_
    obtain ⟨y4, m4, hc4, hg⟩ := rf_b_some hg
    refine rf_callv C rf_fit0 j_X14_isPartOf (ci := 14) (As := [.int a7, .int a6]) (rest := []) mw_X14_isPartOf (c_X14_isPartOf hc4) (by decide) rfl (by decide) lk_14_774 rfl rfl (Nat.le_of_ble_eq_true rfl) (by decide +kernel) ?_
    show rf_V 9 (rf_sh w) K 0 0 604 ([(0, .ref 206), (3, .int a3), (5, .int a5), (6, .int a6), (7, .int a7)], [.int y4], rf_MM w m4)
    refine rf_if_ne C 6 610 (by decide +kernel) (fun hc => ?_) (fun hc => ?_)
    · replace hg := (if_neg hc).symm.trans hg
      obtain ⟨q5, hg⟩ := rf_g_some hg
      refine rf_seg C [(.aload 0, 1), (.invokeinterface 14 86, 3), (.iload 6, 2), (.iconst 1, 1), (.bastore, 1), (.aload 0, 1), (.invokeinterface 14 87, 3), (.iconst 6, 2), (.iload 6, 2), (.imul, 1), (.aload 0, 1), (.invokeinterface 14 81, 3), (.iconst 6, 2), (.iload 7, 2), (.imul, 1)] (pc' := 636) (S' := ([(0, .ref 206), (3, .int a3), (5, .int a5), (6, .int a6), (7, .int a7)], [.int (6 * a7), .ref 258, .int (6 * a6), .ref 264], rf_MM w (rf_i m4 263 (Int32.toNatClampNeg a6) (vp_nar .boolean 1)))) (by decide +kernel) rfl (rf_in_of q5) ?_
      obtain ⟨m6, hc6, hg⟩ := rf_bv_some hg
      refine rf_calls C rf_fit0 j_X14_adds__264_258 (As := [.ref 264, .int (6 * a6), .ref 258, .int (6 * a7)]) (rest := []) mw_X14_adds__264_258 (c_X14_adds__264_258 hc6) (by decide) lk_14_748 rfl rfl (Nat.le_of_ble_eq_true rfl) (by decide +kernel) ?_
      show rf_V 9 (rf_sh w) K 0 0 639 ([(0, .ref 206), (3, .int a3), (5, .int a5), (6, .int a6), (7, .int a7)], [], rf_MM w m6)
      refine rf_few [0, 1, 2, 3, 4] rfl ?_
      exact s_X14_adjust_639 C hE hr557 hr590 a3 a5 a6 a7 m6 hg
    · replace hg := (if_pos hc).symm.trans hg
      refine rf_goto C 32 639 (by decide +kernel) ?_
      refine rf_few [0, 1, 2, 3, 4] rfl ?_
      exact s_X14_adjust_639 C hE hr557 hr590 a3 a5 a6 a7 m4 hg
theorem s_X14_adjust_590 {w : rf_w} {K : rf_K} {r : Int32 × rf_m} (C : rf_Ctx 14 cX14_adjust 9 10 (rf_sh w) K) (hE : rf_End (some .int) K (rf_sh w) 0 0 (some (.int r.1)) (rf_MM w r.2)) {rec557 : Int32 → Int32 → Int32 → rf_m → Option (Int32 × rf_m)} (hr557 : ∀ (a3 : Int32) (a5 : Int32) (a6 : Int32) (m : rf_m), rec557 a3 a5 a6 m = some r → rf_V 9 (rf_sh w) K 0 0 557 ([(0, .ref 206), (3, .int a3), (5, .int a5), (6, .int a6)], [], rf_MM w m)) (n : Nat) : ∀ (a3 : Int32) (a5 : Int32) (a6 : Int32) (a7 : Int32) (m : rf_m), g_X14_adjust_590 w rec557 n a3 a5 a6 a7 m = some r → rf_V 9 (rf_sh w) K 0 0 590 ([(0, .ref 206), (3, .int a3), (5, .int a5), (6, .int a6), (7, .int a7)], [], rf_MM w m) := by
  induction n with
  | zero => intro a3 a5 a6 a7 m hg; cases hg
  | succ n ih => intro a3 a5 a6 a7 m hg; exact s_X14_adjust_590_b C hE hr557 ih a3 a5 a6 a7 m hg
theorem s_X14_adjust_557_b {w : rf_w} {K : rf_K} {r : Int32 × rf_m} (C : rf_Ctx 14 cX14_adjust 9 10 (rf_sh w) K) (hE : rf_End (some .int) K (rf_sh w) 0 0 (some (.int r.1)) (rf_MM w r.2)) {rec557 : Int32 → Int32 → Int32 → rf_m → Option (Int32 × rf_m)} (hr557 : ∀ (a3 : Int32) (a5 : Int32) (a6 : Int32) (m : rf_m), rec557 a3 a5 a6 m = some r → rf_V 9 (rf_sh w) K 0 0 557 ([(0, .ref 206), (3, .int a3), (5, .int a5), (6, .int a6)], [], rf_MM w m)) (a3 : Int32) (a5 : Int32) (a6 : Int32) (m : rf_m) (hg : g_X14_adjust_557_b w rec557 a3 a5 a6 m = some r) : rf_V 9 (rf_sh w) K 0 0 557 ([(0, .ref 206), (3, .int a3), (5, .int a5), (6, .int a6)], [], rf_MM w m) := by
  unfold g_X14_adjust_557_b at hg
  refine rf_seg C [(.iload 6, 2), (.aload 0, 1), (.invokeinterface 14 16, 3)] (pc' := 563) (S' := ([(0, .ref 206), (3, .int a3), (5, .int a5), (6, .int a6)], [.int (m.1 206 16), .int a6], rf_MM w m)) (by decide +kernel) rfl trivial ?_
  refine rf_icmp_ge C 149 712 (by decide +kernel) (fun hc => ?_) (fun hc => ?_)
  · replace hg := (if_pos hc).symm.trans hg
    refine rf_seg C [(.aload 0, 1), (.invokeinterface 14 16, 3), (.istore 6, 2)] (pc' := 718) (S' := ([(6, .int (m.1 206 16)), (0, .ref 206), (3, .int a3), (5, .int a5)], [], rf_MM w m)) (by decide +kernel) rfl trivial ?_
    refine rf_few [1, 3, 0] rfl ?_
    exact s_X14_adjust_718 C hE rf_fuel a5 (m.1 206 16) m hg
  · replace hg := (if_neg hc).symm.trans hg
    refine rf_seg C [(.aload 0, 1), (.invokeinterface 14 87, 3), (.iconst 6, 2), (.iload 6, 2), (.imul, 1), (.goto_w 0, 1)] (pc' := 576) (S' := ([(0, .ref 206), (3, .int a3), (5, .int a5), (6, .int a6)], [.long 0, .int (6 * a6), .ref 264], rf_MM w m)) (by decide +kernel) rfl trivial ?_
    obtain ⟨m0, hc0, hg⟩ := rf_bv_some hg
    refine rf_calls C rf_fit0 j_X14_set__264 (As := [.ref 264, .int (6 * a6), .long 0]) (rest := []) mw_X14_set__264 (c_X14_set__264 hc0) (by decide) lk_14_740 rfl rfl (Nat.le_of_ble_eq_true rfl) (by decide +kernel) ?_
    show rf_V 9 (rf_sh w) K 0 0 579 ([(0, .ref 206), (3, .int a3), (5, .int a5), (6, .int a6)], [], rf_MM w m0)
    obtain ⟨q1, hg⟩ := rf_g_some hg
    refine rf_seg C [(.aload 0, 1), (.invokeinterface 14 86, 3), (.iload 6, 2), (.iconst 0, 1), (.bastore, 1), (.iconst 0, 1), (.istore 7, 2)] (pc' := 590) (S' := ([(7, .int 0), (0, .ref 206), (3, .int a3), (5, .int a5), (6, .int a6)], [], rf_MM w (rf_i m0 263 (Int32.toNatClampNeg a6) (vp_nar .boolean 0)))) (by decide +kernel) rfl (rf_in_of q1) ?_
    refine rf_few [1, 2, 3, 4, 0] rfl ?_
    exact s_X14_adjust_590 C hE hr557 rf_fuel a3 a5 a6 0 (rf_i m0 263 (Int32.toNatClampNeg a6) (vp_nar .boolean 0)) hg
theorem s_X14_adjust_557 {w : rf_w} {K : rf_K} {r : Int32 × rf_m} (C : rf_Ctx 14 cX14_adjust 9 10 (rf_sh w) K) (hE : rf_End (some .int) K (rf_sh w) 0 0 (some (.int r.1)) (rf_MM w r.2)) (n : Nat) : ∀ (a3 : Int32) (a5 : Int32) (a6 : Int32) (m : rf_m), g_X14_adjust_557 w n a3 a5 a6 m = some r → rf_V 9 (rf_sh w) K 0 0 557 ([(0, .ref 206), (3, .int a3), (5, .int a5), (6, .int a6)], [], rf_MM w m) := by
  induction n with
  | zero => intro a3 a5 a6 m hg; cases hg
  | succ n ih => intro a3 a5 a6 m hg; exact s_X14_adjust_557_b C hE ih a3 a5 a6 m hg
theorem s_X14_adjust_548 {w : rf_w} {K : rf_K} {r : Int32 × rf_m} (C : rf_Ctx 14 cX14_adjust 9 10 (rf_sh w) K) (hE : rf_End (some .int) K (rf_sh w) 0 0 (some (.int r.1)) (rf_MM w r.2)) (a3 : Int32) (s1 : Int64) (m : rf_m) (hg : g_X14_adjust_548 w a3 s1 m = some r) : rf_V 9 (rf_sh w) K 0 0 548 ([(0, .ref 206), (3, .int a3)], [.long s1, .ref 206], rf_MM w m) := by
  unfold g_X14_adjust_548 at hg
  refine rf_seg C [(.multianewarray 14 89, 3), (.iconst 0, 1), (.istore 5, 2), (.iconst 0, 1), (.istore 6, 2)] (pc' := 557) (S' := ([(6, .int 0), (5, .int 0), (0, .ref 206), (3, .int a3)], [], rf_MM w (rf_l m 206 89 s1))) (by decide +kernel) rfl trivial ?_
  refine rf_few [2, 3, 1, 0] rfl ?_
  exact s_X14_adjust_557 C hE rf_fuel a3 0 0 (rf_l m 206 89 s1) hg
theorem s_X14_adjust_432_b {w : rf_w} {K : rf_K} {r : Int32 × rf_m} (C : rf_Ctx 14 cX14_adjust 9 10 (rf_sh w) K) (hE : rf_End (some .int) K (rf_sh w) 0 0 (some (.int r.1)) (rf_MM w r.2)) {rec432 : Int32 → Int32 → rf_m → Option (Int32 × rf_m)} (hr432 : ∀ (a3 : Int32) (a5 : Int32) (m : rf_m), rec432 a3 a5 m = some r → rf_V 9 (rf_sh w) K 0 0 432 ([(0, .ref 206), (3, .int a3), (5, .int a5)], [], rf_MM w m)) (a3 : Int32) (a5 : Int32) (m : rf_m) (hg : g_X14_adjust_432_b w rec432 a3 a5 m = some r) : rf_V 9 (rf_sh w) K 0 0 432 ([(0, .ref 206), (3, .int a3), (5, .int a5)], [], rf_MM w m) := by
  unfold g_X14_adjust_432_b at hg
  refine rf_seg C [(.iload 5, 2), (.iload 3, 1)] (pc' := 435) (S' := ([(0, .ref 206), (3, .int a3), (5, .int a5)], [.int a3, .int a5], rf_MM w m)) (by decide +kernel) rfl trivial ?_
  refine rf_icmp_ge C 62 497 (by decide +kernel) (fun hc => ?_) (fun hc => ?_)
  · replace hg := (if_pos hc).symm.trans hg
    refine rf_seg C [(.aload 0, 1), (.invokeinterface 14 80, 3), (.iconst 0, 1), (.aload 0, 1), (.invokeinterface 14 75, 3), (.iconst 0, 1), (.iconst 2520000, 3)] (pc' := 510) (S' := ([(0, .ref 206), (3, .int a3), (5, .int a5)], [.int 2520000, .int 0, .ref 252, .int 0, .ref 257], rf_MM w m)) (by decide +kernel) rfl trivial ?_
    obtain ⟨m0, hc0, hg⟩ := rf_bv_some hg
    refine rf_calls C rf_fit0 j_X14_times__257_252 (As := [.ref 257, .int 0, .ref 252, .int 0, .int 2520000]) (rest := []) mw_X14_times__257_252 (c_X14_times__257_252 hc0) (by decide) lk_14_770 rfl rfl (Nat.le_of_ble_eq_true rfl) (by decide +kernel) ?_
    show rf_V 9 (rf_sh w) K 0 0 513 ([(0, .ref 206), (3, .int a3), (5, .int a5)], [], rf_MM w m0)
    refine rf_seg C [(.aload 0, 1), (.invokeinterface 14 75, 3), (.iconst 0, 1), (.aload 0, 1), (.invokeinterface 14 80, 3), (.iconst 0, 1)] (pc' := 523) (S' := ([(0, .ref 206), (3, .int a3), (5, .int a5)], [.int 0, .ref 257, .int 0, .ref 252], rf_MM w m0)) (by decide +kernel) rfl trivial ?_
    obtain ⟨m1, hc1, hg⟩ := rf_bv_some hg
    refine rf_calls C rf_fit0 j_X14_copies__252_257 (As := [.ref 252, .int 0, .ref 257, .int 0]) (rest := []) mw_X14_copies__252_257 (c_X14_copies__252_257 hc1) (by decide) lk_14_744 rfl rfl (Nat.le_of_ble_eq_true rfl) (by decide +kernel) ?_
    show rf_V 9 (rf_sh w) K 0 0 526 ([(0, .ref 206), (3, .int a3), (5, .int a5)], [], rf_MM w m1)
    refine rf_seg C [(.aload 0, 1)] (pc' := 527) (S' := ([(0, .ref 206), (3, .int a3), (5, .int a5)], [.ref 206], rf_MM w m1)) (by decide +kernel) rfl trivial ?_
    obtain ⟨m2, hc2, hg⟩ := rf_bv_some hg
    refine rf_callv C rf_fit0 j_X14_floors (ci := 14) (As := []) (rest := []) mw_X14_floors (c_X14_floors hc2) (by decide) rfl (by decide) lk_14_782 rfl rfl (Nat.le_of_ble_eq_true rfl) (by decide +kernel) ?_
    show rf_V 9 (rf_sh w) K 0 0 530 ([(0, .ref 206), (3, .int a3), (5, .int a5)], [], rf_MM w m2)
    refine rf_seg C [(.aload 0, 1), (.aload 0, 1)] (pc' := 532) (S' := ([(0, .ref 206), (3, .int a3), (5, .int a5)], [.ref 206, .ref 206], rf_MM w m2)) (by decide +kernel) rfl trivial ?_
    obtain ⟨y3, m3, hc3, hg⟩ := rf_b_some hg
    refine rf_callv C rf_fit0 j_X14_isLong (ci := 14) (As := []) (rest := [.ref 206]) mw_X14_isLong (c_X14_isLong hc3) (by decide) rfl (by decide) lk_14_785 rfl rfl (Nat.le_of_ble_eq_true rfl) (by decide +kernel) ?_
    show rf_V 9 (rf_sh w) K 0 0 535 ([(0, .ref 206), (3, .int a3), (5, .int a5)], [.int y3, .ref 206], rf_MM w m3)
    refine rf_if_eq C 10 545 (by decide +kernel) (fun hc => ?_) (fun hc => ?_)
    · replace hg := (if_pos hc).symm.trans hg
      refine rf_seg C [(.goto_w (-9223372036854775808), 3)] (pc' := 548) (S' := ([(0, .ref 206), (3, .int a3), (5, .int a5)], [.long ((-9223372036854775808)), .ref 206], rf_MM w m3)) (by decide +kernel) rfl trivial ?_
      refine rf_few [0, 1] rfl ?_
      exact s_X14_adjust_548 C hE a3 ((-9223372036854775808)) m3 hg
    · replace hg := (if_neg hc).symm.trans hg
      refine rf_seg C [(.aload 0, 1)] (pc' := 539) (S' := ([(0, .ref 206), (3, .int a3), (5, .int a5)], [.ref 206, .ref 206], rf_MM w m3)) (by decide +kernel) rfl trivial ?_
      obtain ⟨y4, m4, hc4, hg⟩ := rf_b_some hg
      refine rf_callv C rf_fit0 j_X14_quotientLong (ci := 14) (As := []) (rest := [.ref 206]) mw_X14_quotientLong (c_X14_quotientLong hc4) (by decide) rfl (by decide) lk_14_788 rfl rfl (Nat.le_of_ble_eq_true rfl) (by decide +kernel) ?_
      show rf_V 9 (rf_sh w) K 0 0 542 ([(0, .ref 206), (3, .int a3), (5, .int a5)], [.long y4, .ref 206], rf_MM w m4)
      refine rf_goto C 6 548 (by decide +kernel) ?_
      refine rf_few [0, 1] rfl ?_
      exact s_X14_adjust_548 C hE a3 y4 m4 hg
  · replace hg := (if_neg hc).symm.trans hg
    refine rf_seg C [(.aload 0, 1), (.iload 3, 1), (.iload 5, 2), (.aload 0, 1), (.invokeinterface 14 81, 3), (.iconst 6, 2), (.iload 5, 2), (.imul, 1)] (pc' := 451) (S' := ([(0, .ref 206), (3, .int a3), (5, .int a5)], [.int (6 * a5), .ref 258, .int a5, .int a3, .ref 206], rf_MM w m)) (by decide +kernel) rfl trivial ?_
    obtain ⟨m5, hc5, hg⟩ := rf_bv_some hg
    refine rf_callv C rf_fit0 j_X14_determinant__258 (ci := 14) (As := [.int a3, .int a5, .ref 258, .int (6 * a5)]) (rest := []) mw_X14_determinant__258 (c_X14_determinant__258 hc5) (by decide) rfl (by decide) lk_14_777 rfl rfl (Nat.le_of_ble_eq_true rfl) (by decide +kernel) ?_
    show rf_V 9 (rf_sh w) K 0 0 454 ([(0, .ref 206), (3, .int a3), (5, .int a5)], [], rf_MM w m5)
    obtain ⟨q6, hg⟩ := rf_g_some hg
    refine rf_seg C [(.aload 0, 1), (.invokeinterface 14 80, 3), (.iconst 0, 1), (.aload 0, 1), (.invokeinterface 14 81, 3), (.iconst 6, 2), (.iload 5, 2), (.imul, 1), (.aload 0, 1), (.invokeinterface 14 78, 3), (.iload 5, 2), (.iaload, 1)] (pc' := 475) (S' := ([(0, .ref 206), (3, .int a3), (5, .int a5)], [.int (m5.1 255 (Int32.toNatClampNeg a5)), .int (6 * a5), .ref 258, .int 0, .ref 257], rf_MM w m5)) (by decide +kernel) rfl (rf_in_of q6) ?_
    obtain ⟨m7, hc7, hg⟩ := rf_bv_some hg
    refine rf_calls C rf_fit0 j_X14_times__257_258 (As := [.ref 257, .int 0, .ref 258, .int (6 * a5), .int (m5.1 255 (Int32.toNatClampNeg a5))]) (rest := []) mw_X14_times__257_258 (c_X14_times__257_258 hc7) (by decide) lk_14_770 rfl rfl (Nat.le_of_ble_eq_true rfl) (by decide +kernel) ?_
    show rf_V 9 (rf_sh w) K 0 0 478 ([(0, .ref 206), (3, .int a3), (5, .int a5)], [], rf_MM w m7)
    refine rf_seg C [(.aload 0, 1), (.invokeinterface 14 75, 3), (.iconst 0, 1), (.aload 0, 1), (.invokeinterface 14 80, 3), (.iconst 0, 1)] (pc' := 488) (S' := ([(0, .ref 206), (3, .int a3), (5, .int a5)], [.int 0, .ref 257, .int 0, .ref 252], rf_MM w m7)) (by decide +kernel) rfl trivial ?_
    obtain ⟨m8, hc8, hg⟩ := rf_bv_some hg
    refine rf_calls C rf_fit0 j_X14_adds__252_257 (As := [.ref 252, .int 0, .ref 257, .int 0]) (rest := []) mw_X14_adds__252_257 (c_X14_adds__252_257 hc8) (by decide) lk_14_748 rfl rfl (Nat.le_of_ble_eq_true rfl) (by decide +kernel) ?_
    show rf_V 9 (rf_sh w) K 0 0 491 ([(0, .ref 206), (3, .int a3), (5, .int a5)], [], rf_MM w m8)
    refine rf_seg C [(.iinc 5 1, 3)] (pc' := 494) (S' := ([(5, .int (a5 + 1)), (0, .ref 206), (3, .int a3)], [], rf_MM w m8)) (by decide +kernel) rfl trivial ?_
    refine rf_goto C (-62) 432 (by decide +kernel) ?_
    refine rf_few [1, 2, 0] rfl ?_
    exact hr432 a3 (a5 + 1) m8 hg
theorem s_X14_adjust_432 {w : rf_w} {K : rf_K} {r : Int32 × rf_m} (C : rf_Ctx 14 cX14_adjust 9 10 (rf_sh w) K) (hE : rf_End (some .int) K (rf_sh w) 0 0 (some (.int r.1)) (rf_MM w r.2)) (n : Nat) : ∀ (a3 : Int32) (a5 : Int32) (m : rf_m), g_X14_adjust_432 w n a3 a5 m = some r → rf_V 9 (rf_sh w) K 0 0 432 ([(0, .ref 206), (3, .int a3), (5, .int a5)], [], rf_MM w m) := by
  induction n with
  | zero => intro a3 a5 m hg; cases hg
  | succ n ih => intro a3 a5 m hg; exact s_X14_adjust_432_b C hE ih a3 a5 m hg
theorem s_X14_adjust_329 {w : rf_w} {K : rf_K} {r : Int32 × rf_m} (C : rf_Ctx 14 cX14_adjust 9 10 (rf_sh w) K) (hE : rf_End (some .int) K (rf_sh w) 0 0 (some (.int r.1)) (rf_MM w r.2)) {rec264 : Int32 → Int32 → rf_m → Option (Int32 × rf_m)} {rec273 : Int32 → Int32 → Int32 → rf_m → Option (Int32 × rf_m)} {rec285 : Int32 → Int32 → Int32 → Int32 → Int32 → rf_m → Option (Int32 × rf_m)} (hr264 : ∀ (a3 : Int32) (a5 : Int32) (m : rf_m), rec264 a3 a5 m = some r → rf_V 9 (rf_sh w) K 0 0 264 ([(0, .ref 206), (3, .int a3), (5, .int a5)], [], rf_MM w m)) (hr273 : ∀ (a3 : Int32) (a5 : Int32) (a6 : Int32) (m : rf_m), rec273 a3 a5 a6 m = some r → rf_V 9 (rf_sh w) K 0 0 273 ([(0, .ref 206), (3, .int a3), (5, .int a5), (6, .int a6)], [], rf_MM w m)) (hr285 : ∀ (a3 : Int32) (a5 : Int32) (a6 : Int32) (a7 : Int32) (a8 : Int32) (m : rf_m), rec285 a3 a5 a6 a7 a8 m = some r → rf_V 9 (rf_sh w) K 0 0 285 ([(0, .ref 206), (3, .int a3), (5, .int a5), (6, .int a6), (7, .int a7), (8, .int a8)], [], rf_MM w m)) (a3 : Int32) (a5 : Int32) (a6 : Int32) (a8 : Int32) (s0 : Int32) (s1 : Int32) (m : rf_m) (hg : g_X14_adjust_329 w rec264 rec273 rec285 a3 a5 a6 a8 s0 s1 m = some r) : rf_V 9 (rf_sh w) K 0 0 329 ([(0, .ref 206), (3, .int a3), (5, .int a5), (6, .int a6), (8, .int a8)], [.int s1, .int s0], rf_MM w m) := by
  unfold g_X14_adjust_329 at hg
  refine rf_seg C [(.iadd, 1), (.istore 7, 2), (.iinc 8 1, 3)] (pc' := 335) (S' := ([(8, .int (a8 + 1)), (7, .int (s0 + s1)), (0, .ref 206), (3, .int a3), (5, .int a5), (6, .int a6)], [], rf_MM w m)) (by decide +kernel) rfl trivial ?_
  refine rf_goto C (-50) 285 (by decide +kernel) ?_
  refine rf_few [2, 3, 4, 5, 1, 0] rfl ?_
  exact hr285 a3 a5 a6 (s0 + s1) (a8 + 1) m hg
theorem s_X14_adjust_328 {w : rf_w} {K : rf_K} {r : Int32 × rf_m} (C : rf_Ctx 14 cX14_adjust 9 10 (rf_sh w) K) (hE : rf_End (some .int) K (rf_sh w) 0 0 (some (.int r.1)) (rf_MM w r.2)) {rec264 : Int32 → Int32 → rf_m → Option (Int32 × rf_m)} {rec273 : Int32 → Int32 → Int32 → rf_m → Option (Int32 × rf_m)} {rec285 : Int32 → Int32 → Int32 → Int32 → Int32 → rf_m → Option (Int32 × rf_m)} (hr264 : ∀ (a3 : Int32) (a5 : Int32) (m : rf_m), rec264 a3 a5 m = some r → rf_V 9 (rf_sh w) K 0 0 264 ([(0, .ref 206), (3, .int a3), (5, .int a5)], [], rf_MM w m)) (hr273 : ∀ (a3 : Int32) (a5 : Int32) (a6 : Int32) (m : rf_m), rec273 a3 a5 a6 m = some r → rf_V 9 (rf_sh w) K 0 0 273 ([(0, .ref 206), (3, .int a3), (5, .int a5), (6, .int a6)], [], rf_MM w m)) (hr285 : ∀ (a3 : Int32) (a5 : Int32) (a6 : Int32) (a7 : Int32) (a8 : Int32) (m : rf_m), rec285 a3 a5 a6 a7 a8 m = some r → rf_V 9 (rf_sh w) K 0 0 285 ([(0, .ref 206), (3, .int a3), (5, .int a5), (6, .int a6), (7, .int a7), (8, .int a8)], [], rf_MM w m)) (a3 : Int32) (a5 : Int32) (a6 : Int32) (a8 : Int32) (s0 : Int32) (m : rf_m) (hg : g_X14_adjust_328 w rec264 rec273 rec285 a3 a5 a6 a8 s0 m = some r) : rf_V 9 (rf_sh w) K 0 0 328 ([(0, .ref 206), (3, .int a3), (5, .int a5), (6, .int a6), (8, .int a8)], [.int s0], rf_MM w m) := by
  unfold g_X14_adjust_328 at hg
  refine rf_seg C [(.iconst 0, 1)] (pc' := 329) (S' := ([(0, .ref 206), (3, .int a3), (5, .int a5), (6, .int a6), (8, .int a8)], [.int 0, .int s0], rf_MM w m)) (by decide +kernel) rfl trivial ?_
  refine rf_few [0, 1, 2, 3, 4] rfl ?_
  exact s_X14_adjust_329 C hE hr264 hr273 hr285 a3 a5 a6 a8 s0 0 m hg
theorem s_X14_adjust_285_b {w : rf_w} {K : rf_K} {r : Int32 × rf_m} (C : rf_Ctx 14 cX14_adjust 9 10 (rf_sh w) K) (hE : rf_End (some .int) K (rf_sh w) 0 0 (some (.int r.1)) (rf_MM w r.2)) {rec264 : Int32 → Int32 → rf_m → Option (Int32 × rf_m)} {rec273 : Int32 → Int32 → Int32 → rf_m → Option (Int32 × rf_m)} {rec285 : Int32 → Int32 → Int32 → Int32 → Int32 → rf_m → Option (Int32 × rf_m)} (hr264 : ∀ (a3 : Int32) (a5 : Int32) (m : rf_m), rec264 a3 a5 m = some r → rf_V 9 (rf_sh w) K 0 0 264 ([(0, .ref 206), (3, .int a3), (5, .int a5)], [], rf_MM w m)) (hr273 : ∀ (a3 : Int32) (a5 : Int32) (a6 : Int32) (m : rf_m), rec273 a3 a5 a6 m = some r → rf_V 9 (rf_sh w) K 0 0 273 ([(0, .ref 206), (3, .int a3), (5, .int a5), (6, .int a6)], [], rf_MM w m)) (hr285 : ∀ (a3 : Int32) (a5 : Int32) (a6 : Int32) (a7 : Int32) (a8 : Int32) (m : rf_m), rec285 a3 a5 a6 a7 a8 m = some r → rf_V 9 (rf_sh w) K 0 0 285 ([(0, .ref 206), (3, .int a3), (5, .int a5), (6, .int a6), (7, .int a7), (8, .int a8)], [], rf_MM w m)) (a3 : Int32) (a5 : Int32) (a6 : Int32) (a7 : Int32) (a8 : Int32) (m : rf_m) (hg : g_X14_adjust_285_b w rec264 rec273 rec285 a3 a5 a6 a7 a8 m = some r) : rf_V 9 (rf_sh w) K 0 0 285 ([(0, .ref 206), (3, .int a3), (5, .int a5), (6, .int a6), (7, .int a7), (8, .int a8)], [], rf_MM w m) := by
  unfold g_X14_adjust_285_b at hg
  refine rf_seg C [(.iload 8, 2), (.aload 0, 1), (.invokeinterface 14 16, 3)] (pc' := 291) (S' := ([(0, .ref 206), (3, .int a3), (5, .int a5), (6, .int a6), (7, .int a7), (8, .int a8)], [.int (m.1 206 16), .int a8], rf_MM w m)) (by decide +kernel) rfl trivial ?_
  refine rf_icmp_ge C 47 338 (by decide +kernel) (fun hc => ?_) (fun hc => ?_)
  · replace hg := (if_pos hc).symm.trans hg
    obtain ⟨q0, hg⟩ := rf_g_some hg
    refine rf_seg C [(.aload 0, 1), (.invokeinterface 14 77, 3), (.iconst 6, 2), (.iload 5, 2), (.imul, 1), (.iload 6, 2), (.iadd, 1), (.iload 7, 2), (.iastore, 1), (.iinc 6 1, 3)] (pc' := 356) (S' := ([(6, .int (a6 + 1)), (0, .ref 206), (3, .int a3), (5, .int a5), (7, .int a7), (8, .int a8)], [], rf_MM w (rf_i m 254 (Int32.toNatClampNeg ((6 * a5) + a6)) a7))) (by decide +kernel) rfl (rf_in_of q0) ?_
    refine rf_goto C (-83) 273 (by decide +kernel) ?_
    refine rf_few [1, 2, 3, 0] rfl ?_
    exact hr273 a3 a5 (a6 + 1) (rf_i m 254 (Int32.toNatClampNeg ((6 * a5) + a6)) a7) hg
  · replace hg := (if_neg hc).symm.trans hg
    refine rf_seg C [(.iload 7, 2), (.aload 0, 1), (.iload 5, 2), (.iload 8, 2)] (pc' := 301) (S' := ([(0, .ref 206), (3, .int a3), (5, .int a5), (6, .int a6), (7, .int a7), (8, .int a8)], [.int a8, .int a5, .ref 206, .int a7], rf_MM w m)) (by decide +kernel) rfl trivial ?_
    obtain ⟨y1, m1, hc1, hg⟩ := rf_b_some hg
    refine rf_callv C rf_fit0 j_X14_isPartOf (ci := 14) (As := [.int a5, .int a8]) (rest := [.int a7]) mw_X14_isPartOf (c_X14_isPartOf hc1) (by decide) rfl (by decide) lk_14_774 rfl rfl (Nat.le_of_ble_eq_true rfl) (by decide +kernel) ?_
    show rf_V 9 (rf_sh w) K 0 0 304 ([(0, .ref 206), (3, .int a3), (5, .int a5), (6, .int a6), (7, .int a7), (8, .int a8)], [.int y1, .int a7], rf_MM w m1)
    refine rf_if_eq C 24 328 (by decide +kernel) (fun hc => ?_) (fun hc => ?_)
    · replace hg := (if_pos hc).symm.trans hg
      refine rf_few [0, 1, 2, 3, 5] rfl ?_
      exact s_X14_adjust_328 C hE hr264 hr273 hr285 a3 a5 a6 a8 a7 m1 hg
    · replace hg := (if_neg hc).symm.trans hg
      refine rf_seg C [(.aload 0, 1), (.iload 6, 2), (.iload 8, 2)] (pc' := 312) (S' := ([(0, .ref 206), (3, .int a3), (5, .int a5), (6, .int a6), (7, .int a7), (8, .int a8)], [.int a8, .int a6, .ref 206, .int a7], rf_MM w m1)) (by decide +kernel) rfl trivial ?_
      obtain ⟨y2, m2, hc2, hg⟩ := rf_b_some hg
      refine rf_callv C rf_fit0 j_X14_isPartOf (ci := 14) (As := [.int a6, .int a8]) (rest := [.int a7]) mw_X14_isPartOf (c_X14_isPartOf hc2) (by decide) rfl (by decide) lk_14_774 rfl rfl (Nat.le_of_ble_eq_true rfl) (by decide +kernel) ?_
      show rf_V 9 (rf_sh w) K 0 0 315 ([(0, .ref 206), (3, .int a3), (5, .int a5), (6, .int a6), (7, .int a7), (8, .int a8)], [.int y2, .int a7], rf_MM w m2)
      refine rf_if_eq C 13 328 (by decide +kernel) (fun hc => ?_) (fun hc => ?_)
      · replace hg := (if_pos hc).symm.trans hg
        refine rf_few [0, 1, 2, 3, 5] rfl ?_
        exact s_X14_adjust_328 C hE hr264 hr273 hr285 a3 a5 a6 a8 a7 m2 hg
      · replace hg := (if_neg hc).symm.trans hg
        obtain ⟨q3, hg⟩ := rf_g_some hg
        refine rf_seg C [(.aload 0, 1), (.invokeinterface 14 90, 3), (.iload 8, 2), (.iaload, 1)] (pc' := 325) (S' := ([(0, .ref 206), (3, .int a3), (5, .int a5), (6, .int a6), (7, .int a7), (8, .int a8)], [.int (m2.1 265 (Int32.toNatClampNeg a8)), .int a7], rf_MM w m2)) (by decide +kernel) rfl (rf_in_of q3) ?_
        refine rf_goto C 4 329 (by decide +kernel) ?_
        refine rf_few [0, 1, 2, 3, 5] rfl ?_
        exact s_X14_adjust_329 C hE hr264 hr273 hr285 a3 a5 a6 a8 a7 (m2.1 265 (Int32.toNatClampNeg a8)) m2 hg
theorem s_X14_adjust_285 {w : rf_w} {K : rf_K} {r : Int32 × rf_m} (C : rf_Ctx 14 cX14_adjust 9 10 (rf_sh w) K) (hE : rf_End (some .int) K (rf_sh w) 0 0 (some (.int r.1)) (rf_MM w r.2)) {rec264 : Int32 → Int32 → rf_m → Option (Int32 × rf_m)} {rec273 : Int32 → Int32 → Int32 → rf_m → Option (Int32 × rf_m)} (hr264 : ∀ (a3 : Int32) (a5 : Int32) (m : rf_m), rec264 a3 a5 m = some r → rf_V 9 (rf_sh w) K 0 0 264 ([(0, .ref 206), (3, .int a3), (5, .int a5)], [], rf_MM w m)) (hr273 : ∀ (a3 : Int32) (a5 : Int32) (a6 : Int32) (m : rf_m), rec273 a3 a5 a6 m = some r → rf_V 9 (rf_sh w) K 0 0 273 ([(0, .ref 206), (3, .int a3), (5, .int a5), (6, .int a6)], [], rf_MM w m)) (n : Nat) : ∀ (a3 : Int32) (a5 : Int32) (a6 : Int32) (a7 : Int32) (a8 : Int32) (m : rf_m), g_X14_adjust_285 w rec264 rec273 n a3 a5 a6 a7 a8 m = some r → rf_V 9 (rf_sh w) K 0 0 285 ([(0, .ref 206), (3, .int a3), (5, .int a5), (6, .int a6), (7, .int a7), (8, .int a8)], [], rf_MM w m) := by
  induction n with
  | zero => intro a3 a5 a6 a7 a8 m hg; cases hg
  | succ n ih => intro a3 a5 a6 a7 a8 m hg; exact s_X14_adjust_285_b C hE hr264 hr273 ih a3 a5 a6 a7 a8 m hg
theorem s_X14_adjust_273_b {w : rf_w} {K : rf_K} {r : Int32 × rf_m} (C : rf_Ctx 14 cX14_adjust 9 10 (rf_sh w) K) (hE : rf_End (some .int) K (rf_sh w) 0 0 (some (.int r.1)) (rf_MM w r.2)) {rec264 : Int32 → Int32 → rf_m → Option (Int32 × rf_m)} {rec273 : Int32 → Int32 → Int32 → rf_m → Option (Int32 × rf_m)} (hr264 : ∀ (a3 : Int32) (a5 : Int32) (m : rf_m), rec264 a3 a5 m = some r → rf_V 9 (rf_sh w) K 0 0 264 ([(0, .ref 206), (3, .int a3), (5, .int a5)], [], rf_MM w m)) (hr273 : ∀ (a3 : Int32) (a5 : Int32) (a6 : Int32) (m : rf_m), rec273 a3 a5 a6 m = some r → rf_V 9 (rf_sh w) K 0 0 273 ([(0, .ref 206), (3, .int a3), (5, .int a5), (6, .int a6)], [], rf_MM w m)) (a3 : Int32) (a5 : Int32) (a6 : Int32) (m : rf_m) (hg : g_X14_adjust_273_b w rec264 rec273 a3 a5 a6 m = some r) : rf_V 9 (rf_sh w) K 0 0 273 ([(0, .ref 206), (3, .int a3), (5, .int a5), (6, .int a6)], [], rf_MM w m) := by
  unfold g_X14_adjust_273_b at hg
  refine rf_seg C [(.iload 6, 2), (.iload 3, 1)] (pc' := 276) (S' := ([(0, .ref 206), (3, .int a3), (5, .int a5), (6, .int a6)], [.int a3, .int a6], rf_MM w m)) (by decide +kernel) rfl trivial ?_
  refine rf_icmp_ge C 83 359 (by decide +kernel) (fun hc => ?_) (fun hc => ?_)
  · replace hg := (if_pos hc).symm.trans hg
    refine rf_seg C [(.iinc 5 1, 3)] (pc' := 362) (S' := ([(5, .int (a5 + 1)), (0, .ref 206), (3, .int a3), (6, .int a6)], [], rf_MM w m)) (by decide +kernel) rfl trivial ?_
    refine rf_goto C (-98) 264 (by decide +kernel) ?_
    refine rf_few [1, 2, 0] rfl ?_
    exact hr264 a3 (a5 + 1) m hg
  · replace hg := (if_neg hc).symm.trans hg
    refine rf_seg C [(.iconst 0, 1), (.istore 7, 2), (.iconst 0, 1), (.istore 8, 2)] (pc' := 285) (S' := ([(8, .int 0), (7, .int 0), (0, .ref 206), (3, .int a3), (5, .int a5), (6, .int a6)], [], rf_MM w m)) (by decide +kernel) rfl trivial ?_
    refine rf_few [2, 3, 4, 5, 1, 0] rfl ?_
    exact s_X14_adjust_285 C hE hr264 hr273 rf_fuel a3 a5 a6 0 0 m hg
theorem s_X14_adjust_273 {w : rf_w} {K : rf_K} {r : Int32 × rf_m} (C : rf_Ctx 14 cX14_adjust 9 10 (rf_sh w) K) (hE : rf_End (some .int) K (rf_sh w) 0 0 (some (.int r.1)) (rf_MM w r.2)) {rec264 : Int32 → Int32 → rf_m → Option (Int32 × rf_m)} (hr264 : ∀ (a3 : Int32) (a5 : Int32) (m : rf_m), rec264 a3 a5 m = some r → rf_V 9 (rf_sh w) K 0 0 264 ([(0, .ref 206), (3, .int a3), (5, .int a5)], [], rf_MM w m)) (n : Nat) : ∀ (a3 : Int32) (a5 : Int32) (a6 : Int32) (m : rf_m), g_X14_adjust_273 w rec264 n a3 a5 a6 m = some r → rf_V 9 (rf_sh w) K 0 0 273 ([(0, .ref 206), (3, .int a3), (5, .int a5), (6, .int a6)], [], rf_MM w m) := by
  induction n with
  | zero => intro a3 a5 a6 m hg; cases hg
  | succ n ih => intro a3 a5 a6 m hg; exact s_X14_adjust_273_b C hE hr264 ih a3 a5 a6 m hg
theorem s_X14_adjust_264_b {w : rf_w} {K : rf_K} {r : Int32 × rf_m} (C : rf_Ctx 14 cX14_adjust 9 10 (rf_sh w) K) (hE : rf_End (some .int) K (rf_sh w) 0 0 (some (.int r.1)) (rf_MM w r.2)) {rec264 : Int32 → Int32 → rf_m → Option (Int32 × rf_m)} (hr264 : ∀ (a3 : Int32) (a5 : Int32) (m : rf_m), rec264 a3 a5 m = some r → rf_V 9 (rf_sh w) K 0 0 264 ([(0, .ref 206), (3, .int a3), (5, .int a5)], [], rf_MM w m)) (a3 : Int32) (a5 : Int32) (m : rf_m) (hg : g_X14_adjust_264_b w rec264 a3 a5 m = some r) : rf_V 9 (rf_sh w) K 0 0 264 ([(0, .ref 206), (3, .int a3), (5, .int a5)], [], rf_MM w m) := by
  unfold g_X14_adjust_264_b at hg
  refine rf_seg C [(.iload 5, 2), (.iload 3, 1)] (pc' := 267) (S' := ([(0, .ref 206), (3, .int a3), (5, .int a5)], [.int a3, .int a5], rf_MM w m)) (by decide +kernel) rfl trivial ?_
  refine rf_icmp_ge C 98 365 (by decide +kernel) (fun hc => ?_) (fun hc => ?_)
  · replace hg := (if_pos hc).symm.trans hg
    refine rf_seg C [(.aload 0, 1), (.iload 3, 1), (.iconst (-1), 1), (.aload 0, 1), (.invokeinterface 14 83, 3), (.iconst 0, 1)] (pc' := 373) (S' := ([(0, .ref 206), (3, .int a3), (5, .int a5)], [.int 0, .ref 260, .int ((-1)), .int a3, .ref 206], rf_MM w m)) (by decide +kernel) rfl trivial ?_
    obtain ⟨m0, hc0, hg⟩ := rf_bv_some hg
    refine rf_callv C rf_fit0 j_X14_determinant__260 (ci := 14) (As := [.int a3, .int ((-1)), .ref 260, .int 0]) (rest := []) mw_X14_determinant__260 (c_X14_determinant__260 hc0) (by decide) rfl (by decide) lk_14_777 rfl rfl (Nat.le_of_ble_eq_true rfl) (by decide +kernel) ?_
    show rf_V 9 (rf_sh w) K 0 0 376 ([(0, .ref 206), (3, .int a3), (5, .int a5)], [], rf_MM w m0)
    refine rf_seg C [(.aload 0, 1), (.invokeinterface 14 83, 3), (.iconst 0, 1)] (pc' := 381) (S' := ([(0, .ref 206), (3, .int a3), (5, .int a5)], [.int 0, .ref 260], rf_MM w m0)) (by decide +kernel) rfl trivial ?_
    obtain ⟨y1, m1, hc1, hg⟩ := rf_b_some hg
    refine rf_calls C rf_fit0 j_X14_isZero__260 (As := [.ref 260, .int 0]) (rest := []) mw_X14_isZero__260 (c_X14_isZero__260 hc1) (by decide) lk_14_762 rfl rfl (Nat.le_of_ble_eq_true rfl) (by decide +kernel) ?_
    show rf_V 9 (rf_sh w) K 0 0 384 ([(0, .ref 206), (3, .int a3), (5, .int a5)], [.int y1], rf_MM w m1)
    refine rf_if_eq C 10 394 (by decide +kernel) (fun hc => ?_) (fun hc => ?_)
    · replace hg := (if_pos hc).symm.trans hg
      refine rf_seg C [(.aload 0, 1), (.invokeinterface 14 82, 3), (.iconst 0, 1), (.aload 0, 1), (.invokeinterface 14 83, 3), (.iconst 0, 1)] (pc' := 404) (S' := ([(0, .ref 206), (3, .int a3), (5, .int a5)], [.int 0, .ref 260, .int 0, .ref 259], rf_MM w m1)) (by decide +kernel) rfl trivial ?_
      obtain ⟨m2, hc2, hg⟩ := rf_bv_some hg
      refine rf_calls C rf_fit0 j_X14_copies__259_260 (As := [.ref 259, .int 0, .ref 260, .int 0]) (rest := []) mw_X14_copies__259_260 (c_X14_copies__259_260 hc2) (by decide) lk_14_744 rfl rfl (Nat.le_of_ble_eq_true rfl) (by decide +kernel) ?_
      show rf_V 9 (rf_sh w) K 0 0 407 ([(0, .ref 206), (3, .int a3), (5, .int a5)], [], rf_MM w m2)
      refine rf_seg C [(.aload 0, 1), (.invokeinterface 14 76, 3), (.iconst 0, 1), (.aload 0, 1), (.invokeinterface 14 82, 3), (.iconst 0, 1)] (pc' := 417) (S' := ([(0, .ref 206), (3, .int a3), (5, .int a5)], [.int 0, .ref 259, .int 0, .ref 253], rf_MM w m2)) (by decide +kernel) rfl trivial ?_
      obtain ⟨m3, hc3, hg⟩ := rf_bv_some hg
      refine rf_calls C rf_fit0 j_X14_copies__253_259 (As := [.ref 253, .int 0, .ref 259, .int 0]) (rest := []) mw_X14_copies__253_259 (c_X14_copies__253_259 hc3) (by decide) lk_14_744 rfl rfl (Nat.le_of_ble_eq_true rfl) (by decide +kernel) ?_
      show rf_V 9 (rf_sh w) K 0 0 420 ([(0, .ref 206), (3, .int a3), (5, .int a5)], [], rf_MM w m3)
      refine rf_seg C [(.aload 0, 1), (.invokeinterface 14 75, 3), (.iconst 0, 1), (.goto_w 0, 1)] (pc' := 426) (S' := ([(0, .ref 206), (3, .int a3), (5, .int a5)], [.long 0, .int 0, .ref 252], rf_MM w m3)) (by decide +kernel) rfl trivial ?_
      obtain ⟨m4, hc4, hg⟩ := rf_bv_some hg
      refine rf_calls C rf_fit0 j_X14_set__252 (As := [.ref 252, .int 0, .long 0]) (rest := []) mw_X14_set__252 (c_X14_set__252 hc4) (by decide) lk_14_740 rfl rfl (Nat.le_of_ble_eq_true rfl) (by decide +kernel) ?_
      show rf_V 9 (rf_sh w) K 0 0 429 ([(0, .ref 206), (3, .int a3), (5, .int a5)], [], rf_MM w m4)
      refine rf_seg C [(.iconst 0, 1), (.istore 5, 2)] (pc' := 432) (S' := ([(5, .int 0), (0, .ref 206), (3, .int a3)], [], rf_MM w m4)) (by decide +kernel) rfl trivial ?_
      refine rf_few [1, 2, 0] rfl ?_
      exact s_X14_adjust_432 C hE rf_fuel a3 0 m4 hg
    · replace hg := (if_neg hc).symm.trans hg
      refine rf_seg C [(.aload 0, 1), (.iconst 6, 2)] (pc' := 390) (S' := ([(0, .ref 206), (3, .int a3), (5, .int a5)], [.int 6, .ref 206], rf_MM w m1)) (by decide +kernel) rfl trivial ?_
      obtain ⟨y5, m5, hc5, hg⟩ := rf_b_some hg
      refine rf_callv C rf_fit0 j_X14_refused (ci := 14) (As := [.int 6]) (rest := []) mw_X14_refused (c_X14_refused hc5) (by decide) rfl (by decide) lk_14_353 rfl rfl (Nat.le_of_ble_eq_true rfl) (by decide +kernel) ?_
      show rf_V 9 (rf_sh w) K 0 0 393 ([(0, .ref 206), (3, .int a3), (5, .int a5)], [.int y5], rf_MM w m5)
      obtain rfl := Option.some.inj hg
      exact rf_iret C hE (by decide +kernel)
  · replace hg := (if_neg hc).symm.trans hg
    refine rf_seg C [(.iconst 0, 1), (.istore 6, 2)] (pc' := 273) (S' := ([(6, .int 0), (0, .ref 206), (3, .int a3), (5, .int a5)], [], rf_MM w m)) (by decide +kernel) rfl trivial ?_
    refine rf_few [1, 2, 3, 0] rfl ?_
    exact s_X14_adjust_273 C hE hr264 rf_fuel a3 a5 0 m hg
theorem s_X14_adjust_264 {w : rf_w} {K : rf_K} {r : Int32 × rf_m} (C : rf_Ctx 14 cX14_adjust 9 10 (rf_sh w) K) (hE : rf_End (some .int) K (rf_sh w) 0 0 (some (.int r.1)) (rf_MM w r.2)) (n : Nat) : ∀ (a3 : Int32) (a5 : Int32) (m : rf_m), g_X14_adjust_264 w n a3 a5 m = some r → rf_V 9 (rf_sh w) K 0 0 264 ([(0, .ref 206), (3, .int a3), (5, .int a5)], [], rf_MM w m) := by
  induction n with
  | zero => intro a3 a5 m hg; cases hg
  | succ n ih => intro a3 a5 m hg; exact s_X14_adjust_264_b C hE ih a3 a5 m hg
theorem s_X14_adjust_229_b {w : rf_w} {K : rf_K} {r : Int32 × rf_m} (C : rf_Ctx 14 cX14_adjust 9 10 (rf_sh w) K) (hE : rf_End (some .int) K (rf_sh w) 0 0 (some (.int r.1)) (rf_MM w r.2)) {rec229 : Int32 → Int32 → rf_m → Option (Int32 × rf_m)} (hr229 : ∀ (a3 : Int32) (a5 : Int32) (m : rf_m), rec229 a3 a5 m = some r → rf_V 9 (rf_sh w) K 0 0 229 ([(0, .ref 206), (3, .int a3), (5, .int a5)], [], rf_MM w m)) (a3 : Int32) (a5 : Int32) (m : rf_m) (hg : g_X14_adjust_229_b w rec229 a3 a5 m = some r) : rf_V 9 (rf_sh w) K 0 0 229 ([(0, .ref 206), (3, .int a3), (5, .int a5)], [], rf_MM w m) := by
  unfold g_X14_adjust_229_b at hg
  refine rf_seg C [(.iload 5, 2), (.aload 0, 1), (.invokeinterface 14 16, 3)] (pc' := 235) (S' := ([(0, .ref 206), (3, .int a3), (5, .int a5)], [.int (m.1 206 16), .int a5], rf_MM w m)) (by decide +kernel) rfl trivial ?_
  refine rf_icmp_ge C 26 261 (by decide +kernel) (fun hc => ?_) (fun hc => ?_)
  · replace hg := (if_pos hc).symm.trans hg
    refine rf_seg C [(.iconst 0, 1), (.istore 5, 2)] (pc' := 264) (S' := ([(5, .int 0), (0, .ref 206), (3, .int a3)], [], rf_MM w m)) (by decide +kernel) rfl trivial ?_
    refine rf_few [1, 2, 0] rfl ?_
    exact s_X14_adjust_264 C hE rf_fuel a3 0 m hg
  · replace hg := (if_neg hc).symm.trans hg
    refine rf_seg C [(.aload 0, 1), (.invokeinterface 14 90, 3), (.iload 5, 2), (.iconst 2520, 3), (.aload 0, 1), (.iload 5, 2)] (pc' := 250) (S' := ([(0, .ref 206), (3, .int a3), (5, .int a5)], [.int a5, .ref 206, .int 2520, .int a5, .ref 265], rf_MM w m)) (by decide +kernel) rfl trivial ?_
    obtain ⟨y0, m0, hc0, hg⟩ := rf_b_some hg
    refine rf_callv C rf_fit0 j_X14_weightOf (ci := 14) (As := [.int a5]) (rest := [.int 2520, .int a5, .ref 265]) mw_X14_weightOf (c_X14_weightOf hc0) (by decide) rfl (by decide) lk_14_480 rfl rfl (Nat.le_of_ble_eq_true rfl) (by decide +kernel) ?_
    show rf_V 9 (rf_sh w) K 0 0 253 ([(0, .ref 206), (3, .int a3), (5, .int a5)], [.int y0, .int 2520, .int a5, .ref 265], rf_MM w m0)
    obtain ⟨q1, hg⟩ := rf_g_some hg
    obtain ⟨q2, hg⟩ := rf_g_some hg
    refine rf_seg C [(.idiv, 1), (.iastore, 1), (.iinc 5 1, 3)] (pc' := 258) (S' := ([(5, .int (a5 + 1)), (0, .ref 206), (3, .int a3)], [], rf_MM w (rf_i m0 265 (Int32.toNatClampNeg a5) (2520 / y0)))) (by decide +kernel) rfl (by exact ⟨(rf_nz_of q1), (rf_in_of q2)⟩) ?_
    refine rf_goto C (-29) 229 (by decide +kernel) ?_
    refine rf_few [1, 2, 0] rfl ?_
    exact hr229 a3 (a5 + 1) (rf_i m0 265 (Int32.toNatClampNeg a5) (2520 / y0)) hg
theorem s_X14_adjust_229 {w : rf_w} {K : rf_K} {r : Int32 × rf_m} (C : rf_Ctx 14 cX14_adjust 9 10 (rf_sh w) K) (hE : rf_End (some .int) K (rf_sh w) 0 0 (some (.int r.1)) (rf_MM w r.2)) (n : Nat) : ∀ (a3 : Int32) (a5 : Int32) (m : rf_m), g_X14_adjust_229 w n a3 a5 m = some r → rf_V 9 (rf_sh w) K 0 0 229 ([(0, .ref 206), (3, .int a3), (5, .int a5)], [], rf_MM w m) := by
  induction n with
  | zero => intro a3 a5 m hg; cases hg
  | succ n ih => intro a3 a5 m hg; exact s_X14_adjust_229_b C hE ih a3 a5 m hg
theorem s_X14_adjust_209 {w : rf_w} {K : rf_K} {r : Int32 × rf_m} (C : rf_Ctx 14 cX14_adjust 9 10 (rf_sh w) K) (hE : rf_End (some .int) K (rf_sh w) 0 0 (some (.int r.1)) (rf_MM w r.2)) {rec80 : Int32 → Int32 → Int32 → Int32 → Int32 → rf_m → Option (Int32 × rf_m)} (hr80 : ∀ (a1 : Int32) (a2 : Int32) (a3 : Int32) (a4 : Int32) (a5 : Int32) (m : rf_m), rec80 a1 a2 a3 a4 a5 m = some r → rf_V 9 (rf_sh w) K 0 0 80 ([(0, .ref 206), (1, .int a1), (2, .int a2), (3, .int a3), (4, .int a4), (5, .int a5)], [], rf_MM w m)) (a1 : Int32) (a2 : Int32) (a3 : Int32) (a4 : Int32) (a5 : Int32) (m : rf_m) (hg : g_X14_adjust_209 w rec80 a1 a2 a3 a4 a5 m = some r) : rf_V 9 (rf_sh w) K 0 0 209 ([(0, .ref 206), (1, .int a1), (2, .int a2), (3, .int a3), (4, .int a4), (5, .int a5)], [], rf_MM w m) := by
  unfold g_X14_adjust_209 at hg
  refine rf_seg C [(.iinc 5 1, 3)] (pc' := 212) (S' := ([(5, .int (a5 + 1)), (0, .ref 206), (1, .int a1), (2, .int a2), (3, .int a3), (4, .int a4)], [], rf_MM w m)) (by decide +kernel) rfl trivial ?_
  refine rf_goto C (-132) 80 (by decide +kernel) ?_
  refine rf_few [1, 2, 3, 4, 5, 0] rfl ?_
  exact hr80 a1 a2 a3 a4 (a5 + 1) m hg
theorem s_X14_adjust_191 {w : rf_w} {K : rf_K} {r : Int32 × rf_m} (C : rf_Ctx 14 cX14_adjust 9 10 (rf_sh w) K) (hE : rf_End (some .int) K (rf_sh w) 0 0 (some (.int r.1)) (rf_MM w r.2)) {rec80 : Int32 → Int32 → Int32 → Int32 → Int32 → rf_m → Option (Int32 × rf_m)} (hr80 : ∀ (a1 : Int32) (a2 : Int32) (a3 : Int32) (a4 : Int32) (a5 : Int32) (m : rf_m), rec80 a1 a2 a3 a4 a5 m = some r → rf_V 9 (rf_sh w) K 0 0 80 ([(0, .ref 206), (1, .int a1), (2, .int a2), (3, .int a3), (4, .int a4), (5, .int a5)], [], rf_MM w m)) (a1 : Int32) (a2 : Int32) (a3 : Int32) (a5 : Int32) (s0 : Int32) (m : rf_m) (hg : g_X14_adjust_191 w rec80 a1 a2 a3 a5 s0 m = some r) : rf_V 9 (rf_sh w) K 0 0 191 ([(0, .ref 206), (1, .int a1), (2, .int a2), (3, .int a3), (5, .int a5)], [.int s0], rf_MM w m) := by
  unfold g_X14_adjust_191 at hg
  obtain ⟨q0, hg⟩ := rf_g_some hg
  obtain ⟨q1, hg⟩ := rf_g_some hg
  refine rf_seg C [(.istore 4, 2), (.aload 0, 1), (.invokeinterface 14 78, 3), (.iload 3, 1), (.aload 0, 1), (.invokeinterface 14 78, 3), (.iload 3, 1), (.iaload, 1), (.ineg, 1), (.iastore, 1), (.iinc 3 1, 3)] (pc' := 209) (S' := ([(3, .int (a3 + 1)), (4, .int s0), (0, .ref 206), (1, .int a1), (2, .int a2), (5, .int a5)], [], rf_MM w (rf_i m 255 (Int32.toNatClampNeg a3) (-(m.1 255 (Int32.toNatClampNeg a3)))))) (by decide +kernel) rfl (by exact ⟨(rf_in_of q0), (rf_in_of q1)⟩) ?_
  refine rf_few [2, 3, 4, 0, 1, 5] rfl ?_
  exact s_X14_adjust_209 C hE hr80 a1 a2 (a3 + 1) s0 a5 (rf_i m 255 (Int32.toNatClampNeg a3) (-(m.1 255 (Int32.toNatClampNeg a3)))) hg
theorem s_X14_adjust_190 {w : rf_w} {K : rf_K} {r : Int32 × rf_m} (C : rf_Ctx 14 cX14_adjust 9 10 (rf_sh w) K) (hE : rf_End (some .int) K (rf_sh w) 0 0 (some (.int r.1)) (rf_MM w r.2)) {rec80 : Int32 → Int32 → Int32 → Int32 → Int32 → rf_m → Option (Int32 × rf_m)} (hr80 : ∀ (a1 : Int32) (a2 : Int32) (a3 : Int32) (a4 : Int32) (a5 : Int32) (m : rf_m), rec80 a1 a2 a3 a4 a5 m = some r → rf_V 9 (rf_sh w) K 0 0 80 ([(0, .ref 206), (1, .int a1), (2, .int a2), (3, .int a3), (4, .int a4), (5, .int a5)], [], rf_MM w m)) (a1 : Int32) (a2 : Int32) (a3 : Int32) (a5 : Int32) (m : rf_m) (hg : g_X14_adjust_190 w rec80 a1 a2 a3 a5 m = some r) : rf_V 9 (rf_sh w) K 0 0 190 ([(0, .ref 206), (1, .int a1), (2, .int a2), (3, .int a3), (5, .int a5)], [], rf_MM w m) := by
  unfold g_X14_adjust_190 at hg
  refine rf_seg C [(.iconst 0, 1)] (pc' := 191) (S' := ([(0, .ref 206), (1, .int a1), (2, .int a2), (3, .int a3), (5, .int a5)], [.int 0], rf_MM w m)) (by decide +kernel) rfl trivial ?_
  refine rf_few [0, 1, 2, 3, 4] rfl ?_
  exact s_X14_adjust_191 C hE hr80 a1 a2 a3 a5 0 m hg
theorem s_X14_adjust_128 {w : rf_w} {K : rf_K} {r : Int32 × rf_m} (C : rf_Ctx 14 cX14_adjust 9 10 (rf_sh w) K) (hE : rf_End (some .int) K (rf_sh w) 0 0 (some (.int r.1)) (rf_MM w r.2)) {rec80 : Int32 → Int32 → Int32 → Int32 → Int32 → rf_m → Option (Int32 × rf_m)} (hr80 : ∀ (a1 : Int32) (a2 : Int32) (a3 : Int32) (a4 : Int32) (a5 : Int32) (m : rf_m), rec80 a1 a2 a3 a4 a5 m = some r → rf_V 9 (rf_sh w) K 0 0 80 ([(0, .ref 206), (1, .int a1), (2, .int a2), (3, .int a3), (4, .int a4), (5, .int a5)], [], rf_MM w m)) (a1 : Int32) (a2 : Int32) (a3 : Int32) (a4 : Int32) (a5 : Int32) (a6 : Int32) (a7 : Int32) (s0 : Int32) (m : rf_m) (hg : g_X14_adjust_128 w rec80 a1 a2 a3 a4 a5 a6 a7 s0 m = some r) : rf_V 9 (rf_sh w) K 0 0 128 ([(0, .ref 206), (1, .int a1), (2, .int a2), (3, .int a3), (4, .int a4), (5, .int a5), (6, .int a6), (7, .int a7)], [.int s0], rf_MM w m) := by
  unfold g_X14_adjust_128 at hg
  refine rf_seg C [(.iload 7, 2), (.ishr, 1), (.iconst 1, 1), (.iand, 1)] (pc' := 133) (S' := ([(0, .ref 206), (1, .int a1), (2, .int a2), (3, .int a3), (4, .int a4), (5, .int a5), (6, .int a6), (7, .int a7)], [.int ((s0 >>> (a7 &&& 31)) &&& 1)], rf_MM w m)) (by decide +kernel) rfl trivial ?_
  refine rf_if_ne C 6 139 (by decide +kernel) (fun hc => ?_) (fun hc => ?_)
  · replace hg := (if_neg hc).symm.trans hg
    obtain ⟨q0, hg⟩ := rf_g_some hg
    obtain ⟨q1, hg⟩ := rf_g_some hg
    refine rf_seg C [(.aload 0, 1), (.invokeinterface 14 84, 3), (.iload 3, 1), (.iload 7, 2), (.iastore, 1), (.aload 0, 1), (.invokeinterface 14 85, 3), (.iload 3, 1), (.iload 6, 2), (.bastore, 1), (.aload 0, 1), (.invokeinterface 14 78, 3), (.iload 3, 1), (.aload 0, 1), (.iload 7, 2), (.iload 6, 2)] (pc' := 165) (S' := ([(0, .ref 206), (1, .int a1), (2, .int a2), (3, .int a3), (4, .int a4), (5, .int a5), (6, .int a6), (7, .int a7)], [.int a6, .int a7, .ref 206, .int a3, .ref 255], rf_MM w (rf_i (rf_i m 261 (Int32.toNatClampNeg a3) a7) 262 (Int32.toNatClampNeg a3) (vp_nar .boolean a6)))) (by decide +kernel) rfl (by exact ⟨(rf_in_of q0), (rf_in_of q1)⟩) ?_
    obtain ⟨y2, m2, hc2, hg⟩ := rf_b_some hg
    refine rf_callv C rf_fit0 j_X14_missOf (ci := 14) (As := [.int a7, .int a6]) (rest := [.int a3, .ref 255]) mw_X14_missOf (c_X14_missOf hc2) (by decide) rfl (by decide) lk_14_716 rfl rfl (Nat.le_of_ble_eq_true rfl) (by decide +kernel) ?_
    show rf_V 9 (rf_sh w) K 0 0 168 ([(0, .ref 206), (1, .int a1), (2, .int a2), (3, .int a3), (4, .int a4), (5, .int a5), (6, .int a6), (7, .int a7)], [.int y2, .int a3, .ref 255], rf_MM w m2)
    obtain ⟨q3, hg⟩ := rf_g_some hg
    refine rf_seg C [(.iastore, 1), (.iload 4, 2)] (pc' := 171) (S' := ([(0, .ref 206), (1, .int a1), (2, .int a2), (3, .int a3), (4, .int a4), (5, .int a5), (6, .int a6), (7, .int a7)], [.int a4], rf_MM w (rf_i m2 255 (Int32.toNatClampNeg a3) y2))) (by decide +kernel) rfl (rf_in_of q3) ?_
    refine rf_if_eq C 19 190 (by decide +kernel) (fun hc => ?_) (fun hc => ?_)
    · replace hg := (if_pos hc).symm.trans hg
      refine rf_few [0, 1, 2, 3, 5] rfl ?_
      exact s_X14_adjust_190 C hE hr80 a1 a2 a3 a5 (rf_i m2 255 (Int32.toNatClampNeg a3) y2) hg
    · replace hg := (if_neg hc).symm.trans hg
      obtain ⟨q4, hg⟩ := rf_g_some hg
      refine rf_seg C [(.aload 0, 1), (.invokeinterface 14 78, 3), (.iload 3, 1), (.iaload, 1), (.iconst (-2147483648), 3)] (pc' := 183) (S' := ([(0, .ref 206), (1, .int a1), (2, .int a2), (3, .int a3), (4, .int a4), (5, .int a5), (6, .int a6), (7, .int a7)], [.int ((-2147483648)), .int ((rf_i m2 255 (Int32.toNatClampNeg a3) y2).1 255 (Int32.toNatClampNeg a3))], rf_MM w (rf_i m2 255 (Int32.toNatClampNeg a3) y2))) (by decide +kernel) rfl (rf_in_of q4) ?_
      refine rf_icmp_eq C 7 190 (by decide +kernel) (fun hc => ?_) (fun hc => ?_)
      · replace hg := (if_pos hc).symm.trans hg
        refine rf_few [0, 1, 2, 3, 5] rfl ?_
        exact s_X14_adjust_190 C hE hr80 a1 a2 a3 a5 (rf_i m2 255 (Int32.toNatClampNeg a3) y2) hg
      · replace hg := (if_neg hc).symm.trans hg
        refine rf_seg C [(.iconst 1, 1)] (pc' := 187) (S' := ([(0, .ref 206), (1, .int a1), (2, .int a2), (3, .int a3), (4, .int a4), (5, .int a5), (6, .int a6), (7, .int a7)], [.int 1], rf_MM w (rf_i m2 255 (Int32.toNatClampNeg a3) y2))) (by decide +kernel) rfl trivial ?_
        refine rf_goto C 4 191 (by decide +kernel) ?_
        refine rf_few [0, 1, 2, 3, 5] rfl ?_
        exact s_X14_adjust_191 C hE hr80 a1 a2 a3 a5 1 (rf_i m2 255 (Int32.toNatClampNeg a3) y2) hg
  · replace hg := (if_pos hc).symm.trans hg
    refine rf_goto C 73 209 (by decide +kernel) ?_
    refine rf_few [0, 1, 2, 3, 4, 5] rfl ?_
    exact s_X14_adjust_209 C hE hr80 a1 a2 a3 a4 a5 m hg
theorem s_X14_adjust_116 {w : rf_w} {K : rf_K} {r : Int32 × rf_m} (C : rf_Ctx 14 cX14_adjust 9 10 (rf_sh w) K) (hE : rf_End (some .int) K (rf_sh w) 0 0 (some (.int r.1)) (rf_MM w r.2)) {rec80 : Int32 → Int32 → Int32 → Int32 → Int32 → rf_m → Option (Int32 × rf_m)} (hr80 : ∀ (a1 : Int32) (a2 : Int32) (a3 : Int32) (a4 : Int32) (a5 : Int32) (m : rf_m), rec80 a1 a2 a3 a4 a5 m = some r → rf_V 9 (rf_sh w) K 0 0 80 ([(0, .ref 206), (1, .int a1), (2, .int a2), (3, .int a3), (4, .int a4), (5, .int a5)], [], rf_MM w m)) (a1 : Int32) (a2 : Int32) (a3 : Int32) (a4 : Int32) (a5 : Int32) (a6 : Int32) (s0 : Int32) (m : rf_m) (hg : g_X14_adjust_116 w rec80 a1 a2 a3 a4 a5 a6 s0 m = some r) : rf_V 9 (rf_sh w) K 0 0 116 ([(0, .ref 206), (1, .int a1), (2, .int a2), (3, .int a3), (4, .int a4), (5, .int a5), (6, .int a6)], [.int s0], rf_MM w m) := by
  unfold g_X14_adjust_116 at hg
  refine rf_seg C [(.istore 7, 2), (.iload 6, 2)] (pc' := 120) (S' := ([(7, .int s0), (0, .ref 206), (1, .int a1), (2, .int a2), (3, .int a3), (4, .int a4), (5, .int a5), (6, .int a6)], [.int a6], rf_MM w m)) (by decide +kernel) rfl trivial ?_
  refine rf_if_eq C 7 127 (by decide +kernel) (fun hc => ?_) (fun hc => ?_)
  · replace hg := (if_pos hc).symm.trans hg
    refine rf_seg C [(.iload 1, 1)] (pc' := 128) (S' := ([(7, .int s0), (0, .ref 206), (1, .int a1), (2, .int a2), (3, .int a3), (4, .int a4), (5, .int a5), (6, .int a6)], [.int a1], rf_MM w m)) (by decide +kernel) rfl trivial ?_
    refine rf_few [1, 2, 3, 4, 5, 6, 7, 0] rfl ?_
    exact s_X14_adjust_128 C hE hr80 a1 a2 a3 a4 a5 a6 s0 a1 m hg
  · replace hg := (if_neg hc).symm.trans hg
    refine rf_seg C [(.iload 2, 1)] (pc' := 124) (S' := ([(7, .int s0), (0, .ref 206), (1, .int a1), (2, .int a2), (3, .int a3), (4, .int a4), (5, .int a5), (6, .int a6)], [.int a2], rf_MM w m)) (by decide +kernel) rfl trivial ?_
    refine rf_goto C 4 128 (by decide +kernel) ?_
    refine rf_few [1, 2, 3, 4, 5, 6, 7, 0] rfl ?_
    exact s_X14_adjust_128 C hE hr80 a1 a2 a3 a4 a5 a6 s0 a2 m hg
theorem s_X14_adjust_99 {w : rf_w} {K : rf_K} {r : Int32 × rf_m} (C : rf_Ctx 14 cX14_adjust 9 10 (rf_sh w) K) (hE : rf_End (some .int) K (rf_sh w) 0 0 (some (.int r.1)) (rf_MM w r.2)) {rec80 : Int32 → Int32 → Int32 → Int32 → Int32 → rf_m → Option (Int32 × rf_m)} (hr80 : ∀ (a1 : Int32) (a2 : Int32) (a3 : Int32) (a4 : Int32) (a5 : Int32) (m : rf_m), rec80 a1 a2 a3 a4 a5 m = some r → rf_V 9 (rf_sh w) K 0 0 80 ([(0, .ref 206), (1, .int a1), (2, .int a2), (3, .int a3), (4, .int a4), (5, .int a5)], [], rf_MM w m)) (a1 : Int32) (a2 : Int32) (a3 : Int32) (a4 : Int32) (a5 : Int32) (s0 : Int32) (m : rf_m) (hg : g_X14_adjust_99 w rec80 a1 a2 a3 a4 a5 s0 m = some r) : rf_V 9 (rf_sh w) K 0 0 99 ([(0, .ref 206), (1, .int a1), (2, .int a2), (3, .int a3), (4, .int a4), (5, .int a5)], [.int s0], rf_MM w m) := by
  unfold g_X14_adjust_99 at hg
  refine rf_seg C [(.istore 6, 2), (.iload 6, 2)] (pc' := 103) (S' := ([(6, .int s0), (0, .ref 206), (1, .int a1), (2, .int a2), (3, .int a3), (4, .int a4), (5, .int a5)], [.int s0], rf_MM w m)) (by decide +kernel) rfl trivial ?_
  refine rf_if_eq C 11 114 (by decide +kernel) (fun hc => ?_) (fun hc => ?_)
  · replace hg := (if_pos hc).symm.trans hg
    refine rf_seg C [(.iload 5, 2)] (pc' := 116) (S' := ([(6, .int s0), (0, .ref 206), (1, .int a1), (2, .int a2), (3, .int a3), (4, .int a4), (5, .int a5)], [.int a5], rf_MM w m)) (by decide +kernel) rfl trivial ?_
    refine rf_few [1, 2, 3, 4, 5, 6, 0] rfl ?_
    exact s_X14_adjust_116 C hE hr80 a1 a2 a3 a4 a5 s0 a5 m hg
  · replace hg := (if_neg hc).symm.trans hg
    refine rf_seg C [(.iload 5, 2), (.iconst 30, 2), (.isub, 1)] (pc' := 111) (S' := ([(6, .int s0), (0, .ref 206), (1, .int a1), (2, .int a2), (3, .int a3), (4, .int a4), (5, .int a5)], [.int (a5 - 30)], rf_MM w m)) (by decide +kernel) rfl trivial ?_
    refine rf_goto C 5 116 (by decide +kernel) ?_
    refine rf_few [1, 2, 3, 4, 5, 6, 0] rfl ?_
    exact s_X14_adjust_116 C hE hr80 a1 a2 a3 a4 a5 s0 (a5 - 30) m hg
theorem s_X14_adjust_80_b {w : rf_w} {K : rf_K} {r : Int32 × rf_m} (C : rf_Ctx 14 cX14_adjust 9 10 (rf_sh w) K) (hE : rf_End (some .int) K (rf_sh w) 0 0 (some (.int r.1)) (rf_MM w r.2)) {rec80 : Int32 → Int32 → Int32 → Int32 → Int32 → rf_m → Option (Int32 × rf_m)} (hr80 : ∀ (a1 : Int32) (a2 : Int32) (a3 : Int32) (a4 : Int32) (a5 : Int32) (m : rf_m), rec80 a1 a2 a3 a4 a5 m = some r → rf_V 9 (rf_sh w) K 0 0 80 ([(0, .ref 206), (1, .int a1), (2, .int a2), (3, .int a3), (4, .int a4), (5, .int a5)], [], rf_MM w m)) (a1 : Int32) (a2 : Int32) (a3 : Int32) (a4 : Int32) (a5 : Int32) (m : rf_m) (hg : g_X14_adjust_80_b w rec80 a1 a2 a3 a4 a5 m = some r) : rf_V 9 (rf_sh w) K 0 0 80 ([(0, .ref 206), (1, .int a1), (2, .int a2), (3, .int a3), (4, .int a4), (5, .int a5)], [], rf_MM w m) := by
  unfold g_X14_adjust_80_b at hg
  refine rf_seg C [(.iload 5, 2), (.iconst 42, 2)] (pc' := 84) (S' := ([(0, .ref 206), (1, .int a1), (2, .int a2), (3, .int a3), (4, .int a4), (5, .int a5)], [.int 42, .int a5], rf_MM w m)) (by decide +kernel) rfl trivial ?_
  refine rf_icmp_ge C 131 215 (by decide +kernel) (fun hc => ?_) (fun hc => ?_)
  · replace hg := (if_pos hc).symm.trans hg
    refine rf_seg C [(.iload 4, 2)] (pc' := 217) (S' := ([(0, .ref 206), (1, .int a1), (2, .int a2), (3, .int a3), (4, .int a4), (5, .int a5)], [.int a4], rf_MM w m)) (by decide +kernel) rfl trivial ?_
    refine rf_if_ne C 9 226 (by decide +kernel) (fun hc => ?_) (fun hc => ?_)
    · replace hg := (if_neg hc).symm.trans hg
      refine rf_seg C [(.iconst 0, 1), (.istore 5, 2)] (pc' := 229) (S' := ([(5, .int 0), (0, .ref 206), (1, .int a1), (2, .int a2), (3, .int a3), (4, .int a4)], [], rf_MM w m)) (by decide +kernel) rfl trivial ?_
      refine rf_few [1, 4, 0] rfl ?_
      exact s_X14_adjust_229 C hE rf_fuel a3 0 m hg
    · replace hg := (if_pos hc).symm.trans hg
      refine rf_seg C [(.aload 0, 1), (.iconst 5, 1)] (pc' := 222) (S' := ([(0, .ref 206), (1, .int a1), (2, .int a2), (3, .int a3), (4, .int a4), (5, .int a5)], [.int 5, .ref 206], rf_MM w m)) (by decide +kernel) rfl trivial ?_
      obtain ⟨y0, m0, hc0, hg⟩ := rf_b_some hg
      refine rf_callv C rf_fit0 j_X14_refused (ci := 14) (As := [.int 5]) (rest := []) mw_X14_refused (c_X14_refused hc0) (by decide) rfl (by decide) lk_14_353 rfl rfl (Nat.le_of_ble_eq_true rfl) (by decide +kernel) ?_
      show rf_V 9 (rf_sh w) K 0 0 225 ([(0, .ref 206), (1, .int a1), (2, .int a2), (3, .int a3), (4, .int a4), (5, .int a5)], [.int y0], rf_MM w m0)
      obtain rfl := Option.some.inj hg
      exact rf_iret C hE (by decide +kernel)
  · replace hg := (if_neg hc).symm.trans hg
    refine rf_seg C [(.iload 5, 2), (.iconst 30, 2)] (pc' := 91) (S' := ([(0, .ref 206), (1, .int a1), (2, .int a2), (3, .int a3), (4, .int a4), (5, .int a5)], [.int 30, .int a5], rf_MM w m)) (by decide +kernel) rfl trivial ?_
    refine rf_icmp_lt C 7 98 (by decide +kernel) (fun hc => ?_) (fun hc => ?_)
    · replace hg := (if_pos hc).symm.trans hg
      refine rf_seg C [(.iconst 0, 1)] (pc' := 99) (S' := ([(0, .ref 206), (1, .int a1), (2, .int a2), (3, .int a3), (4, .int a4), (5, .int a5)], [.int 0], rf_MM w m)) (by decide +kernel) rfl trivial ?_
      refine rf_few [0, 1, 2, 3, 4, 5] rfl ?_
      exact s_X14_adjust_99 C hE hr80 a1 a2 a3 a4 a5 0 m hg
    · replace hg := (if_neg hc).symm.trans hg
      refine rf_seg C [(.iconst 1, 1)] (pc' := 95) (S' := ([(0, .ref 206), (1, .int a1), (2, .int a2), (3, .int a3), (4, .int a4), (5, .int a5)], [.int 1], rf_MM w m)) (by decide +kernel) rfl trivial ?_
      refine rf_goto C 4 99 (by decide +kernel) ?_
      refine rf_few [0, 1, 2, 3, 4, 5] rfl ?_
      exact s_X14_adjust_99 C hE hr80 a1 a2 a3 a4 a5 1 m hg
theorem s_X14_adjust_80 {w : rf_w} {K : rf_K} {r : Int32 × rf_m} (C : rf_Ctx 14 cX14_adjust 9 10 (rf_sh w) K) (hE : rf_End (some .int) K (rf_sh w) 0 0 (some (.int r.1)) (rf_MM w r.2)) (n : Nat) : ∀ (a1 : Int32) (a2 : Int32) (a3 : Int32) (a4 : Int32) (a5 : Int32) (m : rf_m), g_X14_adjust_80 w n a1 a2 a3 a4 a5 m = some r → rf_V 9 (rf_sh w) K 0 0 80 ([(0, .ref 206), (1, .int a1), (2, .int a2), (3, .int a3), (4, .int a4), (5, .int a5)], [], rf_MM w m) := by
  induction n with
  | zero => intro a1 a2 a3 a4 a5 m hg; cases hg
  | succ n ih => intro a1 a2 a3 a4 a5 m hg; exact s_X14_adjust_80_b C hE ih a1 a2 a3 a4 a5 m hg
theorem s_X14_adjust_47 {w : rf_w} {K : rf_K} {r : Int32 × rf_m} (C : rf_Ctx 14 cX14_adjust 9 10 (rf_sh w) K) (hE : rf_End (some .int) K (rf_sh w) 0 0 (some (.int r.1)) (rf_MM w r.2)) (a1 : Int32) (a2 : Int32) (m : rf_m) (hg : g_X14_adjust_47 w a1 a2 m = some r) : rf_V 9 (rf_sh w) K 0 0 47 ([(0, .ref 206), (1, .int a1), (2, .int a2)], [], rf_MM w m) := by
  unfold g_X14_adjust_47 at hg
  refine rf_seg C [(.iload 1, 1)] (pc' := 48) (S' := ([(0, .ref 206), (1, .int a1), (2, .int a2)], [.int a1], rf_MM w m)) (by decide +kernel) rfl trivial ?_
  obtain ⟨y0, m0, hc0, hg⟩ := rf_b_some hg
  refine rf_calls C rf_fit0 j_X14_bits (As := [.int a1]) (rest := []) mw_X14_bits (c_X14_bits hc0) (by decide) lk_14_767 rfl rfl (Nat.le_of_ble_eq_true rfl) (by decide +kernel) ?_
  show rf_V 9 (rf_sh w) K 0 0 51 ([(0, .ref 206), (1, .int a1), (2, .int a2)], [.int y0], rf_MM w m0)
  refine rf_seg C [(.iload 2, 1)] (pc' := 52) (S' := ([(0, .ref 206), (1, .int a1), (2, .int a2)], [.int a2, .int y0], rf_MM w m0)) (by decide +kernel) rfl trivial ?_
  obtain ⟨y1, m1, hc1, hg⟩ := rf_b_some hg
  refine rf_calls C rf_fit0 j_X14_bits (As := [.int a2]) (rest := [.int y0]) mw_X14_bits (c_X14_bits hc1) (by decide) lk_14_767 rfl rfl (Nat.le_of_ble_eq_true rfl) (by decide +kernel) ?_
  show rf_V 9 (rf_sh w) K 0 0 55 ([(0, .ref 206), (1, .int a1), (2, .int a2)], [.int y1, .int y0], rf_MM w m1)
  refine rf_seg C [(.iadd, 1), (.iconst 6, 2)] (pc' := 58) (S' := ([(0, .ref 206), (1, .int a1), (2, .int a2)], [.int 6, .int (y0 + y1)], rf_MM w m1)) (by decide +kernel) rfl trivial ?_
  refine rf_icmp_le C 10 68 (by decide +kernel) (fun hc => ?_) (fun hc => ?_)
  · replace hg := (if_pos hc).symm.trans hg
    refine rf_seg C [(.aload 0, 1)] (pc' := 69) (S' := ([(0, .ref 206), (1, .int a1), (2, .int a2)], [.ref 206], rf_MM w m1)) (by decide +kernel) rfl trivial ?_
    obtain ⟨m2, hc2, hg⟩ := rf_bv_some hg
    refine rf_callv C rf_fit0 j_X14_allMeans (ci := 14) (As := []) (rest := []) mw_X14_allMeans (c_X14_allMeans hc2) (by decide) rfl (by decide) lk_14_713 rfl rfl (Nat.le_of_ble_eq_true rfl) (by decide +kernel) ?_
    show rf_V 9 (rf_sh w) K 0 0 72 ([(0, .ref 206), (1, .int a1), (2, .int a2)], [], rf_MM w m2)
    refine rf_seg C [(.iconst 0, 1), (.istore 3, 1), (.iconst 1, 1), (.istore 4, 2), (.iconst 0, 1), (.istore 5, 2)] (pc' := 80) (S' := ([(5, .int 0), (4, .int 1), (3, .int 0), (0, .ref 206), (1, .int a1), (2, .int a2)], [], rf_MM w m2)) (by decide +kernel) rfl trivial ?_
    refine rf_few [3, 4, 5, 2, 1, 0] rfl ?_
    exact s_X14_adjust_80 C hE rf_fuel a1 a2 0 1 0 m2 hg
  · replace hg := (if_neg hc).symm.trans hg
    refine rf_seg C [(.aload 0, 1), (.iconst 7, 2)] (pc' := 64) (S' := ([(0, .ref 206), (1, .int a1), (2, .int a2)], [.int 7, .ref 206], rf_MM w m1)) (by decide +kernel) rfl trivial ?_
    obtain ⟨y3, m3, hc3, hg⟩ := rf_b_some hg
    refine rf_callv C rf_fit0 j_X14_refused (ci := 14) (As := [.int 7]) (rest := []) mw_X14_refused (c_X14_refused hc3) (by decide) rfl (by decide) lk_14_353 rfl rfl (Nat.le_of_ble_eq_true rfl) (by decide +kernel) ?_
    show rf_V 9 (rf_sh w) K 0 0 67 ([(0, .ref 206), (1, .int a1), (2, .int a2)], [.int y3], rf_MM w m3)
    obtain rfl := Option.some.inj hg
    exact rf_iret C hE (by decide +kernel)
theorem c_X14_adjust {w : rf_w} {m : rf_m} {a1 : Int32} {a2 : Int32} {r : Int32 × rf_m} (hg : g_X14_adjust w m a1 a2 = some r) : rf_Con j_X14_adjust 10 (rf_sh w) [.ref 206, .int a1, .int a2] (rf_MM w m) (some (.int r.1)) (rf_MM w r.2) := by
  refine rf_con j_X14_adjust 10 ⟨by decide +kernel, rfl, Nat.le_of_ble_eq_true rfl⟩ (fun K C hE => ?_)
  unfold g_X14_adjust at hg
  show rf_V 9 (rf_sh w) K 0 0 0 ([(0, .ref 206), (1, .int a1), (2, .int a2)], [], rf_MM w m)
  refine rf_seg C [(.aload 0, 1), (.iconst 0, 1), (.multianewarray 14 0, 3), (.iload 1, 1)] (pc' := 6) (S' := ([(0, .ref 206), (1, .int a1), (2, .int a2)], [.int a1], rf_MM w (rf_i m 206 0 0))) (by decide +kernel) rfl trivial ?_
  refine rf_if_lt C 35 41 (by decide +kernel) (fun hc => ?_) (fun hc => ?_)
  · replace hg := (if_pos hc).symm.trans hg
    refine rf_seg C [(.aload 0, 1), (.iconst 1, 1)] (pc' := 43) (S' := ([(0, .ref 206), (1, .int a1), (2, .int a2)], [.int 1, .ref 206], rf_MM w (rf_i m 206 0 0))) (by decide +kernel) rfl trivial ?_
    obtain ⟨y0, m0, hc0, hg⟩ := rf_b_some hg
    refine rf_callv C rf_fit0 j_X14_refused (ci := 14) (As := [.int 1]) (rest := []) mw_X14_refused (c_X14_refused hc0) (by decide) rfl (by decide) lk_14_353 rfl rfl (Nat.le_of_ble_eq_true rfl) (by decide +kernel) ?_
    show rf_V 9 (rf_sh w) K 0 0 46 ([(0, .ref 206), (1, .int a1), (2, .int a2)], [.int y0], rf_MM w m0)
    obtain rfl := Option.some.inj hg
    exact rf_iret C hE (by decide +kernel)
  · replace hg := (if_neg hc).symm.trans hg
    refine rf_seg C [(.iload 1, 1), (.iconst 1, 1), (.aload 0, 1), (.invokeinterface 14 64, 3), (.ishl, 1)] (pc' := 16) (S' := ([(0, .ref 206), (1, .int a1), (2, .int a2)], [.int (1 <<< (((rf_i m 206 0 0).1 206 64) &&& 31)), .int a1], rf_MM w (rf_i m 206 0 0))) (by decide +kernel) rfl trivial ?_
    refine rf_icmp_ge C 25 41 (by decide +kernel) (fun hc => ?_) (fun hc => ?_)
    · replace hg := (if_pos hc).symm.trans hg
      refine rf_seg C [(.aload 0, 1), (.iconst 1, 1)] (pc' := 43) (S' := ([(0, .ref 206), (1, .int a1), (2, .int a2)], [.int 1, .ref 206], rf_MM w (rf_i m 206 0 0))) (by decide +kernel) rfl trivial ?_
      obtain ⟨y1, m1, hc1, hg⟩ := rf_b_some hg
      refine rf_callv C rf_fit0 j_X14_refused (ci := 14) (As := [.int 1]) (rest := []) mw_X14_refused (c_X14_refused hc1) (by decide) rfl (by decide) lk_14_353 rfl rfl (Nat.le_of_ble_eq_true rfl) (by decide +kernel) ?_
      show rf_V 9 (rf_sh w) K 0 0 46 ([(0, .ref 206), (1, .int a1), (2, .int a2)], [.int y1], rf_MM w m1)
      obtain rfl := Option.some.inj hg
      exact rf_iret C hE (by decide +kernel)
    · replace hg := (if_neg hc).symm.trans hg
      refine rf_seg C [(.iload 2, 1)] (pc' := 20) (S' := ([(0, .ref 206), (1, .int a1), (2, .int a2)], [.int a2], rf_MM w (rf_i m 206 0 0))) (by decide +kernel) rfl trivial ?_
      refine rf_if_lt C 21 41 (by decide +kernel) (fun hc => ?_) (fun hc => ?_)
      · replace hg := (if_pos hc).symm.trans hg
        refine rf_seg C [(.aload 0, 1), (.iconst 1, 1)] (pc' := 43) (S' := ([(0, .ref 206), (1, .int a1), (2, .int a2)], [.int 1, .ref 206], rf_MM w (rf_i m 206 0 0))) (by decide +kernel) rfl trivial ?_
        obtain ⟨y2, m2, hc2, hg⟩ := rf_b_some hg
        refine rf_callv C rf_fit0 j_X14_refused (ci := 14) (As := [.int 1]) (rest := []) mw_X14_refused (c_X14_refused hc2) (by decide) rfl (by decide) lk_14_353 rfl rfl (Nat.le_of_ble_eq_true rfl) (by decide +kernel) ?_
        show rf_V 9 (rf_sh w) K 0 0 46 ([(0, .ref 206), (1, .int a1), (2, .int a2)], [.int y2], rf_MM w m2)
        obtain rfl := Option.some.inj hg
        exact rf_iret C hE (by decide +kernel)
      · replace hg := (if_neg hc).symm.trans hg
        refine rf_seg C [(.iload 2, 1), (.iconst 1, 1), (.aload 0, 1), (.invokeinterface 14 65, 3), (.ishl, 1)] (pc' := 30) (S' := ([(0, .ref 206), (1, .int a1), (2, .int a2)], [.int (1 <<< (((rf_i m 206 0 0).1 206 65) &&& 31)), .int a2], rf_MM w (rf_i m 206 0 0))) (by decide +kernel) rfl trivial ?_
        refine rf_icmp_ge C 11 41 (by decide +kernel) (fun hc => ?_) (fun hc => ?_)
        · replace hg := (if_pos hc).symm.trans hg
          refine rf_seg C [(.aload 0, 1), (.iconst 1, 1)] (pc' := 43) (S' := ([(0, .ref 206), (1, .int a1), (2, .int a2)], [.int 1, .ref 206], rf_MM w (rf_i m 206 0 0))) (by decide +kernel) rfl trivial ?_
          obtain ⟨y3, m3, hc3, hg⟩ := rf_b_some hg
          refine rf_callv C rf_fit0 j_X14_refused (ci := 14) (As := [.int 1]) (rest := []) mw_X14_refused (c_X14_refused hc3) (by decide) rfl (by decide) lk_14_353 rfl rfl (Nat.le_of_ble_eq_true rfl) (by decide +kernel) ?_
          show rf_V 9 (rf_sh w) K 0 0 46 ([(0, .ref 206), (1, .int a1), (2, .int a2)], [.int y3], rf_MM w m3)
          obtain rfl := Option.some.inj hg
          exact rf_iret C hE (by decide +kernel)
        · replace hg := (if_neg hc).symm.trans hg
          refine rf_seg C [(.iload 1, 1)] (pc' := 34) (S' := ([(0, .ref 206), (1, .int a1), (2, .int a2)], [.int a1], rf_MM w (rf_i m 206 0 0))) (by decide +kernel) rfl trivial ?_
          refine rf_if_ne C 13 47 (by decide +kernel) (fun hc => ?_) (fun hc => ?_)
          · replace hg := (if_neg hc).symm.trans hg
            refine rf_few [0, 1, 2] rfl ?_
            exact s_X14_adjust_47 C hE a1 a2 (rf_i m 206 0 0) hg
          · replace hg := (if_pos hc).symm.trans hg
            refine rf_seg C [(.iload 2, 1)] (pc' := 38) (S' := ([(0, .ref 206), (1, .int a1), (2, .int a2)], [.int a2], rf_MM w (rf_i m 206 0 0))) (by decide +kernel) rfl trivial ?_
            refine rf_if_ne C 9 47 (by decide +kernel) (fun hc => ?_) (fun hc => ?_)
            · replace hg := (if_neg hc).symm.trans hg
              refine rf_few [0, 1, 2] rfl ?_
              exact s_X14_adjust_47 C hE a1 a2 (rf_i m 206 0 0) hg
            · replace hg := (if_pos hc).symm.trans hg
              refine rf_seg C [(.aload 0, 1), (.iconst 1, 1)] (pc' := 43) (S' := ([(0, .ref 206), (1, .int a1), (2, .int a2)], [.int 1, .ref 206], rf_MM w (rf_i m 206 0 0))) (by decide +kernel) rfl trivial ?_
              obtain ⟨y4, m4, hc4, hg⟩ := rf_b_some hg
              refine rf_callv C rf_fit0 j_X14_refused (ci := 14) (As := [.int 1]) (rest := []) mw_X14_refused (c_X14_refused hc4) (by decide) rfl (by decide) lk_14_353 rfl rfl (Nat.le_of_ble_eq_true rfl) (by decide +kernel) ?_
              show rf_V 9 (rf_sh w) K 0 0 46 ([(0, .ref 206), (1, .int a1), (2, .int a2)], [.int y4], rf_MM w m4)
              obtain rfl := Option.some.inj hg
              exact rf_iret C hE (by decide +kernel)
-- X14_times__252_264
abbrev j_X14_times__252_264 : rf_J := (14, yX14_times, cX14_times, 10, none)
theorem mw_X14_times__252_264 : rf_ms j_X14_times__252_264 5 := ⟨⟨rf_mem 71 (by decide +kernel), rf_mem 0 (by decide +kernel), rf_mem 71 (by decide +kernel)⟩, by decide +kernel, by decide⟩
def g_X14_times__252_264_14_b (w : rf_w) (rec14 : Int32 → Int32 → Int32 → Int64 → Int64 → Int32 → rf_m → Option (rf_m)) (a1 : Int32) (a3 : Int32) (a4 : Int32) (a5 : Int64) (a7 : Int64) (a9 : Int32) (m : rf_m) : Option (rf_m) := (if 6 ≤ a9 then (if (0 : Int32) ≤ a4 then some m else rf_bv (g_X14_turns__252 w m a1) fun m0 => some m0) else rf_g (rf_in (a3 + a9) 480) (rf_vl (a7 + (((Int32.toInt64 (m.1 264 (Int32.toNatClampNeg (a3 + a9)))) &&& 4294967295) * a5)) fun x2 => rf_g (rf_in (a1 + a9) 6) (rf_vl ((Int64.toUInt64 x2 >>> ((Int32.toInt64 32).toUInt64 &&& Int64.toUInt64 63)).toInt64) fun x4 => rec14 a1 a3 a4 a5 x4 (a9 + 1) (rf_i m 252 (Int32.toNatClampNeg (a1 + a9)) (Int64.toInt32 x2)))))
def g_X14_times__252_264_14 (w : rf_w) : Nat → Int32 → Int32 → Int32 → Int64 → Int64 → Int32 → rf_m → Option (rf_m)
  | 0, _, _, _, _, _, _, _ => none
  | n + 1, a1, a3, a4, a5, a7, a9, m => g_X14_times__252_264_14_b w (g_X14_times__252_264_14 w n) a1 a3 a4 a5 a7 a9 m
def g_X14_times__252_264 (w : rf_w) (m : rf_m) (a1 : Int32) (a3 : Int32) (a4 : Int32) : Option (rf_m) := rf_b (g_absL w m (Int32.toInt64 a4)) fun y0 m0 => g_X14_times__252_264_14 w rf_fuel a1 a3 a4 y0 0 0 m0
theorem s_X14_times__252_264_14_b {w : rf_w} {K : rf_K} {r : rf_m} (C : rf_Ctx 14 cX14_times 10 2 (rf_sh w) K) (hE : rf_End none K (rf_sh w) 0 0 none (rf_MM w r)) {rec14 : Int32 → Int32 → Int32 → Int64 → Int64 → Int32 → rf_m → Option (rf_m)} (hr14 : ∀ (a1 : Int32) (a3 : Int32) (a4 : Int32) (a5 : Int64) (a7 : Int64) (a9 : Int32) (m : rf_m), rec14 a1 a3 a4 a5 a7 a9 m = some r → rf_V 10 (rf_sh w) K 0 0 14 ([(0, .ref 252), (1, .int a1), (2, .ref 264), (3, .int a3), (4, .int a4), (5, .long a5), (7, .long a7), (9, .int a9)], [], rf_MM w m)) (a1 : Int32) (a3 : Int32) (a4 : Int32) (a5 : Int64) (a7 : Int64) (a9 : Int32) (m : rf_m) (hg : g_X14_times__252_264_14_b w rec14 a1 a3 a4 a5 a7 a9 m = some r) : rf_V 10 (rf_sh w) K 0 0 14 ([(0, .ref 252), (1, .int a1), (2, .ref 264), (3, .int a3), (4, .int a4), (5, .long a5), (7, .long a7), (9, .int a9)], [], rf_MM w m) := by
  unfold g_X14_times__252_264_14_b at hg
  refine rf_seg C [(.iload 9, 2), (.iconst 6, 2)] (pc' := 18) (S' := ([(0, .ref 252), (1, .int a1), (2, .ref 264), (3, .int a3), (4, .int a4), (5, .long a5), (7, .long a7), (9, .int a9)], [.int 6, .int a9], rf_MM w m)) (by decide +kernel) rfl trivial ?_
  refine rf_icmp_ge C 44 62 (by decide +kernel) (fun hc => ?_) (fun hc => ?_)
  · replace hg := (if_pos hc).symm.trans hg
    refine rf_seg C [(.iload 4, 2)] (pc' := 64) (S' := ([(0, .ref 252), (1, .int a1), (2, .ref 264), (3, .int a3), (4, .int a4), (5, .long a5), (7, .long a7), (9, .int a9)], [.int a4], rf_MM w m)) (by decide +kernel) rfl trivial ?_
    refine rf_if_ge C 8 72 (by decide +kernel) (fun hc => ?_) (fun hc => ?_)
    · replace hg := (if_pos hc).symm.trans hg
      obtain rfl := Option.some.inj hg
      exact rf_vret C hE (by decide +kernel)
    · replace hg := (if_neg hc).symm.trans hg
      refine rf_seg C [(.aload 0, 1), (.iload 1, 1)] (pc' := 69) (S' := ([(0, .ref 252), (1, .int a1), (2, .ref 264), (3, .int a3), (4, .int a4), (5, .long a5), (7, .long a7), (9, .int a9)], [.int a1, .ref 252], rf_MM w m)) (by decide +kernel) rfl trivial ?_
      obtain ⟨m0, hc0, hg⟩ := rf_bv_some hg
      refine rf_calls C rf_fit0 j_X14_turns__252 (As := [.ref 252, .int a1]) (rest := []) mw_X14_turns__252 (c_X14_turns__252 hc0) (by decide) lk_14_736 rfl rfl (Nat.le_of_ble_eq_true rfl) (by decide +kernel) ?_
      show rf_V 10 (rf_sh w) K 0 0 72 ([(0, .ref 252), (1, .int a1), (2, .ref 264), (3, .int a3), (4, .int a4), (5, .long a5), (7, .long a7), (9, .int a9)], [], rf_MM w m0)
      obtain rfl := Option.some.inj hg
      exact rf_vret C hE (by decide +kernel)
  · replace hg := (if_neg hc).symm.trans hg
    obtain ⟨q1, hg⟩ := rf_g_some hg
    refine rf_seg C [(.lload 7, 2), (.aload 2, 1), (.iload 3, 1), (.iload 9, 2), (.iadd, 1), (.iaload, 1), (.i2l, 1), (.goto_w 4294967295, 3), (.land, 1), (.lload 5, 2), (.lmul, 1), (.ladd, 1)] (pc' := 38) (S' := ([(0, .ref 252), (1, .int a1), (2, .ref 264), (3, .int a3), (4, .int a4), (5, .long a5), (7, .long a7), (9, .int a9)], [.long (a7 + (((Int32.toInt64 (m.1 264 (Int32.toNatClampNeg (a3 + a9)))) &&& 4294967295) * a5))], rf_MM w m)) (by decide +kernel) rfl (rf_in_of q1) ?_
    obtain ⟨x2, hx2, hg⟩ := rf_vl_some hg
    refine rf_vl_top hx2 ?_
    obtain ⟨q3, hg⟩ := rf_g_some hg
    refine rf_seg C [(.lstore 7, 2), (.aload 0, 1), (.iload 1, 1), (.iload 9, 2), (.iadd, 1), (.lload 7, 2), (.l2i, 1), (.iastore, 1), (.lload 7, 2), (.iconst 32, 2), (.lushr, 1)] (pc' := 54) (S' := ([(7, .long x2), (0, .ref 252), (1, .int a1), (2, .ref 264), (3, .int a3), (4, .int a4), (5, .long a5), (9, .int a9)], [.long ((Int64.toUInt64 x2 >>> ((Int32.toInt64 32).toUInt64 &&& Int64.toUInt64 63)).toInt64)], rf_MM w (rf_i m 252 (Int32.toNatClampNeg (a1 + a9)) (Int64.toInt32 x2)))) (by decide +kernel) rfl (rf_in_of q3) ?_
    obtain ⟨x4, hx4, hg⟩ := rf_vl_some hg
    refine rf_vl_top hx4 ?_
    refine rf_seg C [(.lstore 7, 2), (.iinc 9 1, 3)] (pc' := 59) (S' := ([(9, .int (a9 + 1)), (7, .long x4), (0, .ref 252), (1, .int a1), (2, .ref 264), (3, .int a3), (4, .int a4), (5, .long a5)], [], rf_MM w (rf_i m 252 (Int32.toNatClampNeg (a1 + a9)) (Int64.toInt32 x2)))) (by decide +kernel) rfl trivial ?_
    refine rf_goto C (-45) 14 (by decide +kernel) ?_
    refine rf_few [2, 3, 4, 5, 6, 7, 1, 0] rfl ?_
    exact hr14 a1 a3 a4 a5 x4 (a9 + 1) (rf_i m 252 (Int32.toNatClampNeg (a1 + a9)) (Int64.toInt32 x2)) hg
theorem s_X14_times__252_264_14 {w : rf_w} {K : rf_K} {r : rf_m} (C : rf_Ctx 14 cX14_times 10 2 (rf_sh w) K) (hE : rf_End none K (rf_sh w) 0 0 none (rf_MM w r)) (n : Nat) : ∀ (a1 : Int32) (a3 : Int32) (a4 : Int32) (a5 : Int64) (a7 : Int64) (a9 : Int32) (m : rf_m), g_X14_times__252_264_14 w n a1 a3 a4 a5 a7 a9 m = some r → rf_V 10 (rf_sh w) K 0 0 14 ([(0, .ref 252), (1, .int a1), (2, .ref 264), (3, .int a3), (4, .int a4), (5, .long a5), (7, .long a7), (9, .int a9)], [], rf_MM w m) := by
  induction n with
  | zero => intro a1 a3 a4 a5 a7 a9 m hg; cases hg
  | succ n ih => intro a1 a3 a4 a5 a7 a9 m hg; exact s_X14_times__252_264_14_b C hE ih a1 a3 a4 a5 a7 a9 m hg
theorem c_X14_times__252_264 {w : rf_w} {m : rf_m} {a1 : Int32} {a3 : Int32} {a4 : Int32} {r : rf_m} (hg : g_X14_times__252_264 w m a1 a3 a4 = some r) : rf_Con j_X14_times__252_264 2 (rf_sh w) [.ref 252, .int a1, .ref 264, .int a3, .int a4] (rf_MM w m) none (rf_MM w r) := by
  refine rf_con j_X14_times__252_264 2 ⟨by decide +kernel, rfl, Nat.le_of_ble_eq_true rfl⟩ (fun K C hE => ?_)
  unfold g_X14_times__252_264 at hg
  show rf_V 10 (rf_sh w) K 0 0 0 ([(0, .ref 252), (1, .int a1), (2, .ref 264), (3, .int a3), (4, .int a4)], [], rf_MM w m)
  refine rf_seg C [(.iload 4, 2), (.i2l, 1)] (pc' := 3) (S' := ([(0, .ref 252), (1, .int a1), (2, .ref 264), (3, .int a3), (4, .int a4)], [.long (Int32.toInt64 a4)], rf_MM w m)) (by decide +kernel) rfl trivial ?_
  obtain ⟨y0, m0, hc0, hg⟩ := rf_b_some hg
  refine rf_calls C rf_fit0 j_absL (As := [.long (Int32.toInt64 a4)]) (rest := []) mw_absL (c_absL hc0) (by decide) lk_14_733 rfl rfl (Nat.le_of_ble_eq_true rfl) (by decide +kernel) ?_
  show rf_V 10 (rf_sh w) K 0 0 6 ([(0, .ref 252), (1, .int a1), (2, .ref 264), (3, .int a3), (4, .int a4)], [.long y0], rf_MM w m0)
  refine rf_seg C [(.lstore 5, 2), (.goto_w 0, 1), (.lstore 7, 2), (.iconst 0, 1), (.istore 9, 2)] (pc' := 14) (S' := ([(9, .int 0), (7, .long 0), (5, .long y0), (0, .ref 252), (1, .int a1), (2, .ref 264), (3, .int a3), (4, .int a4)], [], rf_MM w m0)) (by decide +kernel) rfl trivial ?_
  refine rf_few [3, 4, 5, 6, 7, 2, 1, 0] rfl ?_
  exact s_X14_times__252_264_14 C hE rf_fuel a1 a3 a4 y0 0 0 m0 hg
-- X14_change
abbrev j_X14_change : rf_J := (14, yX14_change, cX14_change, 2, (some .int))
theorem mw_X14_change : rf_mv j_X14_change (rf_R 14) 1 := ⟨⟨rf_mem 73 (by decide +kernel), rf_mem 73 (by decide +kernel), rf_mem 0 (by decide +kernel), rf_mem 73 (by decide +kernel)⟩, by decide +kernel, by decide⟩
def g_X14_change (w : rf_w) (m : rf_m) (a1 : Int32) : Option (Int32 × rf_m) := rf_b (g_X14_isAngle w (rf_i m 206 0 0) a1) fun y0 m0 => (if y0 = 0 then some ((-2147483648), m0) else (if (m0.1 206 88) = 0 then some ((-2147483648), m0) else rf_g (rf_in a1 80) ((if (m0.1 263 (Int32.toNatClampNeg a1)) = 0 then some ((-2147483648), m0) else rf_bv (g_X14_times__252_264 w m0 0 (6 * a1) 1000) fun m2 => rf_bv (g_X14_copies__253_259 w m2 0 0) fun m3 => rf_bv (g_X14_floors w m3) fun m4 => rf_b (g_X14_isLong w m4) fun y5 m5 => (if y5 = 0 then some ((-2147483648), m5) else rf_b (g_X14_quotientLong w m5) fun y6 m6 => rf_b (g_X14_quotientLong w m6) fun y7 m7 => (if (lg_cmp y6 (Int32.toInt64 (Int64.toInt32 y7))) = 0 then rf_b (g_X14_quotientLong w m7) fun y8 m8 => some (Int64.toInt32 y8, m8) else some ((-2147483648), m7)))))))
theorem c_X14_change {w : rf_w} {m : rf_m} {a1 : Int32} {r : Int32 × rf_m} (hg : g_X14_change w m a1 = some r) : rf_Con j_X14_change 4 (rf_sh w) [.ref 206, .int a1] (rf_MM w m) (some (.int r.1)) (rf_MM w r.2) := by
  refine rf_con j_X14_change 4 ⟨by decide +kernel, rfl, Nat.le_of_ble_eq_true rfl⟩ (fun K C hE => ?_)
  unfold g_X14_change at hg
  show rf_V 2 (rf_sh w) K 0 0 0 ([(0, .ref 206), (1, .int a1)], [], rf_MM w m)
  refine rf_seg C [(.aload 0, 1), (.iconst 0, 1), (.multianewarray 14 0, 3), (.aload 0, 1), (.iload 1, 1)] (pc' := 7) (S' := ([(0, .ref 206), (1, .int a1)], [.int a1, .ref 206], rf_MM w (rf_i m 206 0 0))) (by decide +kernel) rfl trivial ?_
  obtain ⟨y0, m0, hc0, hg⟩ := rf_b_some hg
  refine rf_callv C rf_fit0 j_X14_isAngle (ci := 14) (As := [.int a1]) (rest := []) mw_X14_isAngle (c_X14_isAngle hc0) (by decide) rfl (by decide) lk_14_402 rfl rfl (Nat.le_of_ble_eq_true rfl) (by decide +kernel) ?_
  show rf_V 2 (rf_sh w) K 0 0 10 ([(0, .ref 206), (1, .int a1)], [.int y0], rf_MM w m0)
  refine rf_if_eq C 19 29 (by decide +kernel) (fun hc => ?_) (fun hc => ?_)
  · replace hg := (if_pos hc).symm.trans hg
    refine rf_seg C [(.iconst (-2147483648), 3)] (pc' := 32) (S' := ([(0, .ref 206), (1, .int a1)], [.int ((-2147483648))], rf_MM w m0)) (by decide +kernel) rfl trivial ?_
    obtain rfl := Option.some.inj hg
    exact rf_iret C hE (by decide +kernel)
  · replace hg := (if_neg hc).symm.trans hg
    refine rf_seg C [(.aload 0, 1), (.invokeinterface 14 88, 3)] (pc' := 17) (S' := ([(0, .ref 206), (1, .int a1)], [.int (m0.1 206 88)], rf_MM w m0)) (by decide +kernel) rfl trivial ?_
    refine rf_if_eq C 12 29 (by decide +kernel) (fun hc => ?_) (fun hc => ?_)
    · replace hg := (if_pos hc).symm.trans hg
      refine rf_seg C [(.iconst (-2147483648), 3)] (pc' := 32) (S' := ([(0, .ref 206), (1, .int a1)], [.int ((-2147483648))], rf_MM w m0)) (by decide +kernel) rfl trivial ?_
      obtain rfl := Option.some.inj hg
      exact rf_iret C hE (by decide +kernel)
    · replace hg := (if_neg hc).symm.trans hg
      obtain ⟨q1, hg⟩ := rf_g_some hg
      refine rf_seg C [(.aload 0, 1), (.invokeinterface 14 86, 3), (.iload 1, 1), (.baload, 1)] (pc' := 26) (S' := ([(0, .ref 206), (1, .int a1)], [.int (m0.1 263 (Int32.toNatClampNeg a1))], rf_MM w m0)) (by decide +kernel) rfl (rf_in_of q1) ?_
      refine rf_if_ne C 7 33 (by decide +kernel) (fun hc => ?_) (fun hc => ?_)
      · replace hg := (if_neg hc).symm.trans hg
        refine rf_seg C [(.aload 0, 1), (.invokeinterface 14 75, 3), (.iconst 0, 1), (.aload 0, 1), (.invokeinterface 14 87, 3), (.iconst 6, 2), (.iload 1, 1), (.imul, 1), (.iconst 1000, 3)] (pc' := 49) (S' := ([(0, .ref 206), (1, .int a1)], [.int 1000, .int (6 * a1), .ref 264, .int 0, .ref 252], rf_MM w m0)) (by decide +kernel) rfl trivial ?_
        obtain ⟨m2, hc2, hg⟩ := rf_bv_some hg
        refine rf_calls C rf_fit0 j_X14_times__252_264 (As := [.ref 252, .int 0, .ref 264, .int (6 * a1), .int 1000]) (rest := []) mw_X14_times__252_264 (c_X14_times__252_264 hc2) (by decide) lk_14_770 rfl rfl (Nat.le_of_ble_eq_true rfl) (by decide +kernel) ?_
        show rf_V 2 (rf_sh w) K 0 0 52 ([(0, .ref 206), (1, .int a1)], [], rf_MM w m2)
        refine rf_seg C [(.aload 0, 1), (.invokeinterface 14 76, 3), (.iconst 0, 1), (.aload 0, 1), (.invokeinterface 14 82, 3), (.iconst 0, 1)] (pc' := 62) (S' := ([(0, .ref 206), (1, .int a1)], [.int 0, .ref 259, .int 0, .ref 253], rf_MM w m2)) (by decide +kernel) rfl trivial ?_
        obtain ⟨m3, hc3, hg⟩ := rf_bv_some hg
        refine rf_calls C rf_fit0 j_X14_copies__253_259 (As := [.ref 253, .int 0, .ref 259, .int 0]) (rest := []) mw_X14_copies__253_259 (c_X14_copies__253_259 hc3) (by decide) lk_14_744 rfl rfl (Nat.le_of_ble_eq_true rfl) (by decide +kernel) ?_
        show rf_V 2 (rf_sh w) K 0 0 65 ([(0, .ref 206), (1, .int a1)], [], rf_MM w m3)
        refine rf_seg C [(.aload 0, 1)] (pc' := 66) (S' := ([(0, .ref 206), (1, .int a1)], [.ref 206], rf_MM w m3)) (by decide +kernel) rfl trivial ?_
        obtain ⟨m4, hc4, hg⟩ := rf_bv_some hg
        refine rf_callv C rf_fit0 j_X14_floors (ci := 14) (As := []) (rest := []) mw_X14_floors (c_X14_floors hc4) (by decide) rfl (by decide) lk_14_782 rfl rfl (Nat.le_of_ble_eq_true rfl) (by decide +kernel) ?_
        show rf_V 2 (rf_sh w) K 0 0 69 ([(0, .ref 206), (1, .int a1)], [], rf_MM w m4)
        refine rf_seg C [(.aload 0, 1)] (pc' := 70) (S' := ([(0, .ref 206), (1, .int a1)], [.ref 206], rf_MM w m4)) (by decide +kernel) rfl trivial ?_
        obtain ⟨y5, m5, hc5, hg⟩ := rf_b_some hg
        refine rf_callv C rf_fit0 j_X14_isLong (ci := 14) (As := []) (rest := []) mw_X14_isLong (c_X14_isLong hc5) (by decide) rfl (by decide) lk_14_785 rfl rfl (Nat.le_of_ble_eq_true rfl) (by decide +kernel) ?_
        show rf_V 2 (rf_sh w) K 0 0 73 ([(0, .ref 206), (1, .int a1)], [.int y5], rf_MM w m5)
        refine rf_if_eq C 25 98 (by decide +kernel) (fun hc => ?_) (fun hc => ?_)
        · replace hg := (if_pos hc).symm.trans hg
          refine rf_seg C [(.iconst (-2147483648), 3)] (pc' := 101) (S' := ([(0, .ref 206), (1, .int a1)], [.int ((-2147483648))], rf_MM w m5)) (by decide +kernel) rfl trivial ?_
          obtain rfl := Option.some.inj hg
          exact rf_iret C hE (by decide +kernel)
        · replace hg := (if_neg hc).symm.trans hg
          refine rf_seg C [(.aload 0, 1)] (pc' := 77) (S' := ([(0, .ref 206), (1, .int a1)], [.ref 206], rf_MM w m5)) (by decide +kernel) rfl trivial ?_
          obtain ⟨y6, m6, hc6, hg⟩ := rf_b_some hg
          refine rf_callv C rf_fit0 j_X14_quotientLong (ci := 14) (As := []) (rest := []) mw_X14_quotientLong (c_X14_quotientLong hc6) (by decide) rfl (by decide) lk_14_788 rfl rfl (Nat.le_of_ble_eq_true rfl) (by decide +kernel) ?_
          show rf_V 2 (rf_sh w) K 0 0 80 ([(0, .ref 206), (1, .int a1)], [.long y6], rf_MM w m6)
          refine rf_seg C [(.aload 0, 1)] (pc' := 81) (S' := ([(0, .ref 206), (1, .int a1)], [.ref 206, .long y6], rf_MM w m6)) (by decide +kernel) rfl trivial ?_
          obtain ⟨y7, m7, hc7, hg⟩ := rf_b_some hg
          refine rf_callv C rf_fit0 j_X14_quotientLong (ci := 14) (As := []) (rest := [.long y6]) mw_X14_quotientLong (c_X14_quotientLong hc7) (by decide) rfl (by decide) lk_14_788 rfl rfl (Nat.le_of_ble_eq_true rfl) (by decide +kernel) ?_
          show rf_V 2 (rf_sh w) K 0 0 84 ([(0, .ref 206), (1, .int a1)], [.long y7, .long y6], rf_MM w m7)
          refine rf_seg C [(.l2i, 1), (.i2l, 1), (.lcmp, 1)] (pc' := 87) (S' := ([(0, .ref 206), (1, .int a1)], [.int (lg_cmp y6 (Int32.toInt64 (Int64.toInt32 y7)))], rf_MM w m7)) (by decide +kernel) rfl trivial ?_
          refine rf_if_ne C 11 98 (by decide +kernel) (fun hc => ?_) (fun hc => ?_)
          · replace hg := (if_neg hc).symm.trans hg
            refine rf_seg C [(.iconst (-2147483648), 3)] (pc' := 101) (S' := ([(0, .ref 206), (1, .int a1)], [.int ((-2147483648))], rf_MM w m7)) (by decide +kernel) rfl trivial ?_
            obtain rfl := Option.some.inj hg
            exact rf_iret C hE (by decide +kernel)
          · replace hg := (if_pos hc).symm.trans hg
            refine rf_seg C [(.aload 0, 1)] (pc' := 91) (S' := ([(0, .ref 206), (1, .int a1)], [.ref 206], rf_MM w m7)) (by decide +kernel) rfl trivial ?_
            obtain ⟨y8, m8, hc8, hg⟩ := rf_b_some hg
            refine rf_callv C rf_fit0 j_X14_quotientLong (ci := 14) (As := []) (rest := []) mw_X14_quotientLong (c_X14_quotientLong hc8) (by decide) rfl (by decide) lk_14_788 rfl rfl (Nat.le_of_ble_eq_true rfl) (by decide +kernel) ?_
            show rf_V 2 (rf_sh w) K 0 0 94 ([(0, .ref 206), (1, .int a1)], [.long y8], rf_MM w m8)
            refine rf_seg C [(.l2i, 1)] (pc' := 95) (S' := ([(0, .ref 206), (1, .int a1)], [.int (Int64.toInt32 y8)], rf_MM w m8)) (by decide +kernel) rfl trivial ?_
            refine rf_goto C 6 101 (by decide +kernel) ?_
            obtain rfl := Option.some.inj hg
            exact rf_iret C hE (by decide +kernel)
      · replace hg := (if_pos hc).symm.trans hg
        refine rf_seg C [(.iconst (-2147483648), 3)] (pc' := 32) (S' := ([(0, .ref 206), (1, .int a1)], [.int ((-2147483648))], rf_MM w m0)) (by decide +kernel) rfl trivial ?_
        obtain rfl := Option.some.inj hg
        exact rf_iret C hE (by decide +kernel)
-- X14_isNoLess__250_267
abbrev j_X14_isNoLess__250_267 : rf_J := (14, yX14_isNoLess, cX14_isNoLess, 9, (some .boolean))
theorem mw_X14_isNoLess__250_267 : rf_ms j_X14_isNoLess__250_267 4 := ⟨⟨rf_mem 72 (by decide +kernel), rf_mem 0 (by decide +kernel), rf_mem 72 (by decide +kernel)⟩, by decide +kernel, by decide⟩
def g_X14_isNoLess__250_267_3_b (w : rf_w) (rec3 : Int32 → Int32 → Int32 → rf_m → Option (Int32 × rf_m)) (a1 : Int32) (a3 : Int32) (a4 : Int32) (m : rf_m) : Option (Int32 × rf_m) := (if a4 < 0 then some (1, m) else rf_g (rf_in (a1 + a4) 6) (rf_vl ((Int32.toInt64 (m.1 250 (Int32.toNatClampNeg (a1 + a4)))) &&& 4294967295) fun x1 => rf_g (rf_in (a3 + a4) 6) (rf_vl ((Int32.toInt64 (m.1 267 (Int32.toNatClampNeg (a3 + a4)))) &&& 4294967295) fun x3 => (if (lg_cmp x1 x3) = 0 then rec3 a1 a3 (a4 + (-1)) m else (if (lg_cmp x1 x3) ≤ 0 then some (0, m) else some (1, m))))))
def g_X14_isNoLess__250_267_3 (w : rf_w) : Nat → Int32 → Int32 → Int32 → rf_m → Option (Int32 × rf_m)
  | 0, _, _, _, _ => none
  | n + 1, a1, a3, a4, m => g_X14_isNoLess__250_267_3_b w (g_X14_isNoLess__250_267_3 w n) a1 a3 a4 m
def g_X14_isNoLess__250_267 (w : rf_w) (m : rf_m) (a1 : Int32) (a3 : Int32) : Option (Int32 × rf_m) := g_X14_isNoLess__250_267_3 w rf_fuel a1 a3 5 m
theorem s_X14_isNoLess__250_267_3_b {w : rf_w} {K : rf_K} {r : Int32 × rf_m} (C : rf_Ctx 14 cX14_isNoLess 9 1 (rf_sh w) K) (hE : rf_End (some .boolean) K (rf_sh w) 0 0 (some (.int r.1)) (rf_MM w r.2)) {rec3 : Int32 → Int32 → Int32 → rf_m → Option (Int32 × rf_m)} (hr3 : ∀ (a1 : Int32) (a3 : Int32) (a4 : Int32) (m : rf_m), rec3 a1 a3 a4 m = some r → rf_V 9 (rf_sh w) K 0 0 3 ([(0, .ref 250), (1, .int a1), (2, .ref 267), (3, .int a3), (4, .int a4)], [], rf_MM w m)) (a1 : Int32) (a3 : Int32) (a4 : Int32) (m : rf_m) (hg : g_X14_isNoLess__250_267_3_b w rec3 a1 a3 a4 m = some r) : rf_V 9 (rf_sh w) K 0 0 3 ([(0, .ref 250), (1, .int a1), (2, .ref 267), (3, .int a3), (4, .int a4)], [], rf_MM w m) := by
  unfold g_X14_isNoLess__250_267_3_b at hg
  refine rf_seg C [(.iload 4, 2)] (pc' := 5) (S' := ([(0, .ref 250), (1, .int a1), (2, .ref 267), (3, .int a3), (4, .int a4)], [.int a4], rf_MM w m)) (by decide +kernel) rfl trivial ?_
  refine rf_if_lt C 57 62 (by decide +kernel) (fun hc => ?_) (fun hc => ?_)
  · replace hg := (if_pos hc).symm.trans hg
    refine rf_seg C [(.iconst 1, 1)] (pc' := 63) (S' := ([(0, .ref 250), (1, .int a1), (2, .ref 267), (3, .int a3), (4, .int a4)], [.int 1], rf_MM w m)) (by decide +kernel) rfl trivial ?_
    obtain rfl := Option.some.inj hg
    exact rf_zret C hE (by decide) (by decide +kernel)
  · replace hg := (if_neg hc).symm.trans hg
    obtain ⟨q0, hg⟩ := rf_g_some hg
    refine rf_seg C [(.aload 0, 1), (.iload 1, 1), (.iload 4, 2), (.iadd, 1), (.iaload, 1), (.i2l, 1), (.goto_w 4294967295, 3), (.land, 1)] (pc' := 19) (S' := ([(0, .ref 250), (1, .int a1), (2, .ref 267), (3, .int a3), (4, .int a4)], [.long ((Int32.toInt64 (m.1 250 (Int32.toNatClampNeg (a1 + a4)))) &&& 4294967295)], rf_MM w m)) (by decide +kernel) rfl (rf_in_of q0) ?_
    obtain ⟨x1, hx1, hg⟩ := rf_vl_some hg
    refine rf_vl_top hx1 ?_
    obtain ⟨q2, hg⟩ := rf_g_some hg
    refine rf_seg C [(.lstore 5, 2), (.aload 2, 1), (.iload 3, 1), (.iload 4, 2), (.iadd, 1), (.iaload, 1), (.i2l, 1), (.goto_w 4294967295, 3), (.land, 1)] (pc' := 32) (S' := ([(5, .long x1), (0, .ref 250), (1, .int a1), (2, .ref 267), (3, .int a3), (4, .int a4)], [.long ((Int32.toInt64 (m.1 267 (Int32.toNatClampNeg (a3 + a4)))) &&& 4294967295)], rf_MM w m)) (by decide +kernel) rfl (rf_in_of q2) ?_
    obtain ⟨x3, hx3, hg⟩ := rf_vl_some hg
    refine rf_vl_top hx3 ?_
    refine rf_seg C [(.lstore 7, 2), (.lload 5, 2), (.lload 7, 2), (.lcmp, 1)] (pc' := 39) (S' := ([(7, .long x3), (5, .long x1), (0, .ref 250), (1, .int a1), (2, .ref 267), (3, .int a3), (4, .int a4)], [.int (lg_cmp x1 x3)], rf_MM w m)) (by decide +kernel) rfl trivial ?_
    refine rf_if_eq C 17 56 (by decide +kernel) (fun hc => ?_) (fun hc => ?_)
    · replace hg := (if_pos hc).symm.trans hg
      refine rf_seg C [(.iinc 4 (-1), 3)] (pc' := 59) (S' := ([(4, .int (a4 + (-1))), (7, .long x3), (5, .long x1), (0, .ref 250), (1, .int a1), (2, .ref 267), (3, .int a3)], [], rf_MM w m)) (by decide +kernel) rfl trivial ?_
      refine rf_goto C (-56) 3 (by decide +kernel) ?_
      refine rf_few [3, 4, 5, 6, 0] rfl ?_
      exact hr3 a1 a3 (a4 + (-1)) m hg
    · replace hg := (if_neg hc).symm.trans hg
      refine rf_seg C [(.lload 5, 2), (.lload 7, 2), (.lcmp, 1)] (pc' := 47) (S' := ([(7, .long x3), (5, .long x1), (0, .ref 250), (1, .int a1), (2, .ref 267), (3, .int a3), (4, .int a4)], [.int (lg_cmp x1 x3)], rf_MM w m)) (by decide +kernel) rfl trivial ?_
      refine rf_if_le C 7 54 (by decide +kernel) (fun hc => ?_) (fun hc => ?_)
      · replace hg := (if_pos hc).symm.trans hg
        refine rf_seg C [(.iconst 0, 1)] (pc' := 55) (S' := ([(7, .long x3), (5, .long x1), (0, .ref 250), (1, .int a1), (2, .ref 267), (3, .int a3), (4, .int a4)], [.int 0], rf_MM w m)) (by decide +kernel) rfl trivial ?_
        obtain rfl := Option.some.inj hg
        exact rf_zret C hE (by decide) (by decide +kernel)
      · replace hg := (if_neg hc).symm.trans hg
        refine rf_seg C [(.iconst 1, 1)] (pc' := 51) (S' := ([(7, .long x3), (5, .long x1), (0, .ref 250), (1, .int a1), (2, .ref 267), (3, .int a3), (4, .int a4)], [.int 1], rf_MM w m)) (by decide +kernel) rfl trivial ?_
        refine rf_goto C 4 55 (by decide +kernel) ?_
        obtain rfl := Option.some.inj hg
        exact rf_zret C hE (by decide) (by decide +kernel)
theorem s_X14_isNoLess__250_267_3 {w : rf_w} {K : rf_K} {r : Int32 × rf_m} (C : rf_Ctx 14 cX14_isNoLess 9 1 (rf_sh w) K) (hE : rf_End (some .boolean) K (rf_sh w) 0 0 (some (.int r.1)) (rf_MM w r.2)) (n : Nat) : ∀ (a1 : Int32) (a3 : Int32) (a4 : Int32) (m : rf_m), g_X14_isNoLess__250_267_3 w n a1 a3 a4 m = some r → rf_V 9 (rf_sh w) K 0 0 3 ([(0, .ref 250), (1, .int a1), (2, .ref 267), (3, .int a3), (4, .int a4)], [], rf_MM w m) := by
  induction n with
  | zero => intro a1 a3 a4 m hg; cases hg
  | succ n ih => intro a1 a3 a4 m hg; exact s_X14_isNoLess__250_267_3_b C hE ih a1 a3 a4 m hg
theorem c_X14_isNoLess__250_267 {w : rf_w} {m : rf_m} {a1 : Int32} {a3 : Int32} {r : Int32 × rf_m} (hg : g_X14_isNoLess__250_267 w m a1 a3 = some r) : rf_Con j_X14_isNoLess__250_267 1 (rf_sh w) [.ref 250, .int a1, .ref 267, .int a3] (rf_MM w m) (some (.int r.1)) (rf_MM w r.2) := by
  refine rf_con j_X14_isNoLess__250_267 1 ⟨by decide +kernel, rfl, Nat.le_of_ble_eq_true rfl⟩ (fun K C hE => ?_)
  unfold g_X14_isNoLess__250_267 at hg
  show rf_V 9 (rf_sh w) K 0 0 0 ([(0, .ref 250), (1, .int a1), (2, .ref 267), (3, .int a3)], [], rf_MM w m)
  refine rf_seg C [(.iconst 5, 1), (.istore 4, 2)] (pc' := 3) (S' := ([(4, .int 5), (0, .ref 250), (1, .int a1), (2, .ref 267), (3, .int a3)], [], rf_MM w m)) (by decide +kernel) rfl trivial ?_
  refine rf_few [1, 2, 3, 4, 0] rfl ?_
  exact s_X14_isNoLess__250_267_3 C hE rf_fuel a1 a3 5 m hg
-- X14_copies__251_267
abbrev j_X14_copies__251_267 : rf_J := (14, yX14_copies, cX14_copies, 5, none)
theorem mw_X14_copies__251_267 : rf_ms j_X14_copies__251_267 4 := ⟨⟨rf_mem 71 (by decide +kernel), rf_mem 0 (by decide +kernel), rf_mem 71 (by decide +kernel)⟩, by decide +kernel, by decide⟩
def g_X14_copies__251_267_3_b (w : rf_w) (rec3 : Int32 → Int32 → Int32 → rf_m → Option (rf_m)) (a1 : Int32) (a3 : Int32) (a4 : Int32) (m : rf_m) : Option (rf_m) := (if 6 ≤ a4 then some m else rf_g (rf_in (a3 + a4) 6) (rf_g (rf_in (a1 + a4) 6) (rec3 a1 a3 (a4 + 1) (rf_i m 251 (Int32.toNatClampNeg (a1 + a4)) (m.1 267 (Int32.toNatClampNeg (a3 + a4)))))))
def g_X14_copies__251_267_3 (w : rf_w) : Nat → Int32 → Int32 → Int32 → rf_m → Option (rf_m)
  | 0, _, _, _, _ => none
  | n + 1, a1, a3, a4, m => g_X14_copies__251_267_3_b w (g_X14_copies__251_267_3 w n) a1 a3 a4 m
def g_X14_copies__251_267 (w : rf_w) (m : rf_m) (a1 : Int32) (a3 : Int32) : Option (rf_m) := g_X14_copies__251_267_3 w rf_fuel a1 a3 0 m
theorem s_X14_copies__251_267_3_b {w : rf_w} {K : rf_K} {r : rf_m} (C : rf_Ctx 14 cX14_copies 5 1 (rf_sh w) K) (hE : rf_End none K (rf_sh w) 0 0 none (rf_MM w r)) {rec3 : Int32 → Int32 → Int32 → rf_m → Option (rf_m)} (hr3 : ∀ (a1 : Int32) (a3 : Int32) (a4 : Int32) (m : rf_m), rec3 a1 a3 a4 m = some r → rf_V 5 (rf_sh w) K 0 0 3 ([(0, .ref 251), (1, .int a1), (2, .ref 267), (3, .int a3), (4, .int a4)], [], rf_MM w m)) (a1 : Int32) (a3 : Int32) (a4 : Int32) (m : rf_m) (hg : g_X14_copies__251_267_3_b w rec3 a1 a3 a4 m = some r) : rf_V 5 (rf_sh w) K 0 0 3 ([(0, .ref 251), (1, .int a1), (2, .ref 267), (3, .int a3), (4, .int a4)], [], rf_MM w m) := by
  unfold g_X14_copies__251_267_3_b at hg
  refine rf_seg C [(.iload 4, 2), (.iconst 6, 2)] (pc' := 7) (S' := ([(0, .ref 251), (1, .int a1), (2, .ref 267), (3, .int a3), (4, .int a4)], [.int 6, .int a4], rf_MM w m)) (by decide +kernel) rfl trivial ?_
  refine rf_icmp_ge C 21 28 (by decide +kernel) (fun hc => ?_) (fun hc => ?_)
  · replace hg := (if_pos hc).symm.trans hg
    obtain rfl := Option.some.inj hg
    exact rf_vret C hE (by decide +kernel)
  · replace hg := (if_neg hc).symm.trans hg
    obtain ⟨q0, hg⟩ := rf_g_some hg
    obtain ⟨q1, hg⟩ := rf_g_some hg
    refine rf_seg C [(.aload 0, 1), (.iload 1, 1), (.iload 4, 2), (.iadd, 1), (.aload 2, 1), (.iload 3, 1), (.iload 4, 2), (.iadd, 1), (.iaload, 1), (.iastore, 1), (.iinc 4 1, 3)] (pc' := 25) (S' := ([(4, .int (a4 + 1)), (0, .ref 251), (1, .int a1), (2, .ref 267), (3, .int a3)], [], rf_MM w (rf_i m 251 (Int32.toNatClampNeg (a1 + a4)) (m.1 267 (Int32.toNatClampNeg (a3 + a4)))))) (by decide +kernel) rfl (by exact ⟨(rf_in_of q0), (rf_in_of q1)⟩) ?_
    refine rf_goto C (-22) 3 (by decide +kernel) ?_
    refine rf_few [1, 2, 3, 4, 0] rfl ?_
    exact hr3 a1 a3 (a4 + 1) (rf_i m 251 (Int32.toNatClampNeg (a1 + a4)) (m.1 267 (Int32.toNatClampNeg (a3 + a4)))) hg
theorem s_X14_copies__251_267_3 {w : rf_w} {K : rf_K} {r : rf_m} (C : rf_Ctx 14 cX14_copies 5 1 (rf_sh w) K) (hE : rf_End none K (rf_sh w) 0 0 none (rf_MM w r)) (n : Nat) : ∀ (a1 : Int32) (a3 : Int32) (a4 : Int32) (m : rf_m), g_X14_copies__251_267_3 w n a1 a3 a4 m = some r → rf_V 5 (rf_sh w) K 0 0 3 ([(0, .ref 251), (1, .int a1), (2, .ref 267), (3, .int a3), (4, .int a4)], [], rf_MM w m) := by
  induction n with
  | zero => intro a1 a3 a4 m hg; cases hg
  | succ n ih => intro a1 a3 a4 m hg; exact s_X14_copies__251_267_3_b C hE ih a1 a3 a4 m hg
theorem c_X14_copies__251_267 {w : rf_w} {m : rf_m} {a1 : Int32} {a3 : Int32} {r : rf_m} (hg : g_X14_copies__251_267 w m a1 a3 = some r) : rf_Con j_X14_copies__251_267 1 (rf_sh w) [.ref 251, .int a1, .ref 267, .int a3] (rf_MM w m) none (rf_MM w r) := by
  refine rf_con j_X14_copies__251_267 1 ⟨by decide +kernel, rfl, Nat.le_of_ble_eq_true rfl⟩ (fun K C hE => ?_)
  unfold g_X14_copies__251_267 at hg
  show rf_V 5 (rf_sh w) K 0 0 0 ([(0, .ref 251), (1, .int a1), (2, .ref 267), (3, .int a3)], [], rf_MM w m)
  refine rf_seg C [(.iconst 0, 1), (.istore 4, 2)] (pc' := 3) (S' := ([(4, .int 0), (0, .ref 251), (1, .int a1), (2, .ref 267), (3, .int a3)], [], rf_MM w m)) (by decide +kernel) rfl trivial ?_
  refine rf_few [1, 2, 3, 4, 0] rfl ?_
  exact s_X14_copies__251_267_3 C hE rf_fuel a1 a3 0 m hg
-- X14_divides__259_267
abbrev j_X14_divides__259_267 : rf_J := (14, yX14_divides, cX14_divides, 6, none)
theorem mw_X14_divides__259_267 : rf_mv j_X14_divides__259_267 (rf_R 14) 4 := ⟨⟨rf_mem 72 (by decide +kernel), rf_mem 72 (by decide +kernel), rf_mem 0 (by decide +kernel), rf_mem 72 (by decide +kernel)⟩, by decide +kernel, by decide⟩
def g_X14_divides__259_267_139 (w : rf_w) (rec42 : Int32 → Int32 → Int32 → rf_m → Option (rf_m)) (a2 : Int32) (a4 : Int32) (a5 : Int32) (m : rf_m) : Option (rf_m) := rec42 a2 a4 (a5 + (-1)) m
def g_X14_divides__259_267_42_b (w : rf_w) (rec42 : Int32 → Int32 → Int32 → rf_m → Option (rf_m)) (a2 : Int32) (a4 : Int32) (a5 : Int32) (m : rf_m) : Option (rf_m) := (if a5 < 0 then some m else rf_bv (g_X14_adds__250_250 w m 0 0) fun m0 => rf_g (rf_in (a2 + (a5 / 32)) 6) (rf_bv (g_X14_adds__249_249 w (rf_i m0 250 (Int32.toNatClampNeg 0) ((m0.1 250 (Int32.toNatClampNeg 0)) ||| (((Int32.toUInt32 (m0.1 259 (Int32.toNatClampNeg (a2 + (a5 / 32)))) >>> (Int32.toUInt32 (a5 - a5 / 32 * 32) &&& Int32.toUInt32 31)).toInt32) &&& 1))) 0 0) fun m2 => rf_b (g_X14_isNoLess__250_267 w m2 0 a4) fun y3 m3 => (if y3 = 0 then g_X14_divides__259_267_139 w rec42 a2 a4 a5 m3 else rf_bv (g_X14_adds__250_251 w m3 0 0) fun m4 => g_X14_divides__259_267_139 w rec42 a2 a4 a5 (rf_i m4 249 (Int32.toNatClampNeg 0) ((m4.1 249 (Int32.toNatClampNeg 0)) ||| 1)))))
def g_X14_divides__259_267_42 (w : rf_w) : Nat → Int32 → Int32 → Int32 → rf_m → Option (rf_m)
  | 0, _, _, _, _ => none
  | n + 1, a2, a4, a5, m => g_X14_divides__259_267_42_b w (g_X14_divides__259_267_42 w n) a2 a4 a5 m
def g_X14_divides__259_267 (w : rf_w) (m : rf_m) (a2 : Int32) (a4 : Int32) : Option (rf_m) := rf_bv (g_X14_set__249 w m 0 0) fun m0 => rf_bv (g_X14_set__250 w m0 0 0) fun m1 => rf_bv (g_X14_copies__251_267 w m1 0 a4) fun m2 => rf_bv (g_X14_turns__251 w m2 0) fun m3 => g_X14_divides__259_267_42 w rf_fuel a2 a4 191 m3
theorem s_X14_divides__259_267_139 {w : rf_w} {K : rf_K} {r : rf_m} (C : rf_Ctx 14 cX14_divides 6 2 (rf_sh w) K) (hE : rf_End none K (rf_sh w) 0 0 none (rf_MM w r)) {rec42 : Int32 → Int32 → Int32 → rf_m → Option (rf_m)} (hr42 : ∀ (a2 : Int32) (a4 : Int32) (a5 : Int32) (m : rf_m), rec42 a2 a4 a5 m = some r → rf_V 6 (rf_sh w) K 0 0 42 ([(0, .ref 206), (1, .ref 259), (2, .int a2), (3, .ref 267), (4, .int a4), (5, .int a5)], [], rf_MM w m)) (a2 : Int32) (a4 : Int32) (a5 : Int32) (m : rf_m) (hg : g_X14_divides__259_267_139 w rec42 a2 a4 a5 m = some r) : rf_V 6 (rf_sh w) K 0 0 139 ([(0, .ref 206), (1, .ref 259), (2, .int a2), (3, .ref 267), (4, .int a4), (5, .int a5)], [], rf_MM w m) := by
  unfold g_X14_divides__259_267_139 at hg
  refine rf_seg C [(.iinc 5 (-1), 3)] (pc' := 142) (S' := ([(5, .int (a5 + (-1))), (0, .ref 206), (1, .ref 259), (2, .int a2), (3, .ref 267), (4, .int a4)], [], rf_MM w m)) (by decide +kernel) rfl trivial ?_
  refine rf_goto C (-100) 42 (by decide +kernel) ?_
  refine rf_few [1, 2, 3, 4, 5, 0] rfl ?_
  exact hr42 a2 a4 (a5 + (-1)) m hg
theorem s_X14_divides__259_267_42_b {w : rf_w} {K : rf_K} {r : rf_m} (C : rf_Ctx 14 cX14_divides 6 2 (rf_sh w) K) (hE : rf_End none K (rf_sh w) 0 0 none (rf_MM w r)) {rec42 : Int32 → Int32 → Int32 → rf_m → Option (rf_m)} (hr42 : ∀ (a2 : Int32) (a4 : Int32) (a5 : Int32) (m : rf_m), rec42 a2 a4 a5 m = some r → rf_V 6 (rf_sh w) K 0 0 42 ([(0, .ref 206), (1, .ref 259), (2, .int a2), (3, .ref 267), (4, .int a4), (5, .int a5)], [], rf_MM w m)) (a2 : Int32) (a4 : Int32) (a5 : Int32) (m : rf_m) (hg : g_X14_divides__259_267_42_b w rec42 a2 a4 a5 m = some r) : rf_V 6 (rf_sh w) K 0 0 42 ([(0, .ref 206), (1, .ref 259), (2, .int a2), (3, .ref 267), (4, .int a4), (5, .int a5)], [], rf_MM w m) := by
  unfold g_X14_divides__259_267_42_b at hg
  refine rf_seg C [(.iload 5, 2)] (pc' := 44) (S' := ([(0, .ref 206), (1, .ref 259), (2, .int a2), (3, .ref 267), (4, .int a4), (5, .int a5)], [.int a5], rf_MM w m)) (by decide +kernel) rfl trivial ?_
  refine rf_if_lt C 101 145 (by decide +kernel) (fun hc => ?_) (fun hc => ?_)
  · replace hg := (if_pos hc).symm.trans hg
    obtain rfl := Option.some.inj hg
    exact rf_vret C hE (by decide +kernel)
  · replace hg := (if_neg hc).symm.trans hg
    refine rf_seg C [(.aload 0, 1), (.invokeinterface 14 73, 3), (.iconst 0, 1), (.aload 0, 1), (.invokeinterface 14 73, 3), (.iconst 0, 1)] (pc' := 57) (S' := ([(0, .ref 206), (1, .ref 259), (2, .int a2), (3, .ref 267), (4, .int a4), (5, .int a5)], [.int 0, .ref 250, .int 0, .ref 250], rf_MM w m)) (by decide +kernel) rfl trivial ?_
    obtain ⟨m0, hc0, hg⟩ := rf_bv_some hg
    refine rf_calls C rf_fit0 j_X14_adds__250_250 (As := [.ref 250, .int 0, .ref 250, .int 0]) (rest := []) mw_X14_adds__250_250 (c_X14_adds__250_250 hc0) (by decide) lk_14_748 rfl rfl (Nat.le_of_ble_eq_true rfl) (by decide +kernel) ?_
    show rf_V 6 (rf_sh w) K 0 0 60 ([(0, .ref 206), (1, .ref 259), (2, .int a2), (3, .ref 267), (4, .int a4), (5, .int a5)], [], rf_MM w m0)
    obtain ⟨q1, hg⟩ := rf_g_some hg
    refine rf_seg C [(.aload 0, 1), (.invokeinterface 14 73, 3), (.iconst 0, 1), (.dup2, 1), (.iaload, 1), (.aload 1, 1), (.iload 2, 1), (.iload 5, 2), (.iconst 32, 2), (.idiv, 1), (.iadd, 1), (.iaload, 1), (.iload 5, 2), (.iconst 32, 2), (.irem, 1), (.iushr, 1), (.iconst 1, 1), (.iand, 1), (.ior, 1), (.iastore, 1), (.aload 0, 1), (.invokeinterface 14 72, 3), (.iconst 0, 1), (.aload 0, 1), (.invokeinterface 14 72, 3), (.iconst 0, 1)] (pc' := 96) (S' := ([(0, .ref 206), (1, .ref 259), (2, .int a2), (3, .ref 267), (4, .int a4), (5, .int a5)], [.int 0, .ref 249, .int 0, .ref 249], rf_MM w (rf_i m0 250 (Int32.toNatClampNeg 0) ((m0.1 250 (Int32.toNatClampNeg 0)) ||| (((Int32.toUInt32 (m0.1 259 (Int32.toNatClampNeg (a2 + (a5 / 32)))) >>> (Int32.toUInt32 (a5 - a5 / 32 * 32) &&& Int32.toUInt32 31)).toInt32) &&& 1))))) (by decide +kernel) rfl (by exact ⟨(rf_in_of (by decide)), (rf_nz_of (by decide)), (rf_in_of q1), (rf_nz_of (by decide)), (rf_in_of (by decide))⟩) ?_
    obtain ⟨m2, hc2, hg⟩ := rf_bv_some hg
    refine rf_calls C rf_fit0 j_X14_adds__249_249 (As := [.ref 249, .int 0, .ref 249, .int 0]) (rest := []) mw_X14_adds__249_249 (c_X14_adds__249_249 hc2) (by decide) lk_14_748 rfl rfl (Nat.le_of_ble_eq_true rfl) (by decide +kernel) ?_
    show rf_V 6 (rf_sh w) K 0 0 99 ([(0, .ref 206), (1, .ref 259), (2, .int a2), (3, .ref 267), (4, .int a4), (5, .int a5)], [], rf_MM w m2)
    refine rf_seg C [(.aload 0, 1), (.invokeinterface 14 73, 3), (.iconst 0, 1), (.aload 3, 1), (.iload 4, 2)] (pc' := 107) (S' := ([(0, .ref 206), (1, .ref 259), (2, .int a2), (3, .ref 267), (4, .int a4), (5, .int a5)], [.int a4, .ref 267, .int 0, .ref 250], rf_MM w m2)) (by decide +kernel) rfl trivial ?_
    obtain ⟨y3, m3, hc3, hg⟩ := rf_b_some hg
    refine rf_calls C rf_fit0 j_X14_isNoLess__250_267 (As := [.ref 250, .int 0, .ref 267, .int a4]) (rest := []) mw_X14_isNoLess__250_267 (c_X14_isNoLess__250_267 hc3) (by decide) lk_14_751 rfl rfl (Nat.le_of_ble_eq_true rfl) (by decide +kernel) ?_
    show rf_V 6 (rf_sh w) K 0 0 110 ([(0, .ref 206), (1, .ref 259), (2, .int a2), (3, .ref 267), (4, .int a4), (5, .int a5)], [.int y3], rf_MM w m3)
    refine rf_if_ne C 6 116 (by decide +kernel) (fun hc => ?_) (fun hc => ?_)
    · replace hg := (if_neg hc).symm.trans hg
      refine rf_seg C [(.aload 0, 1), (.invokeinterface 14 73, 3), (.iconst 0, 1), (.aload 0, 1), (.invokeinterface 14 74, 3), (.iconst 0, 1)] (pc' := 126) (S' := ([(0, .ref 206), (1, .ref 259), (2, .int a2), (3, .ref 267), (4, .int a4), (5, .int a5)], [.int 0, .ref 251, .int 0, .ref 250], rf_MM w m3)) (by decide +kernel) rfl trivial ?_
      obtain ⟨m4, hc4, hg⟩ := rf_bv_some hg
      refine rf_calls C rf_fit0 j_X14_adds__250_251 (As := [.ref 250, .int 0, .ref 251, .int 0]) (rest := []) mw_X14_adds__250_251 (c_X14_adds__250_251 hc4) (by decide) lk_14_748 rfl rfl (Nat.le_of_ble_eq_true rfl) (by decide +kernel) ?_
      show rf_V 6 (rf_sh w) K 0 0 129 ([(0, .ref 206), (1, .ref 259), (2, .int a2), (3, .ref 267), (4, .int a4), (5, .int a5)], [], rf_MM w m4)
      refine rf_seg C [(.aload 0, 1), (.invokeinterface 14 72, 3), (.iconst 0, 1), (.dup2, 1), (.iaload, 1), (.iconst 1, 1), (.ior, 1), (.iastore, 1)] (pc' := 139) (S' := ([(0, .ref 206), (1, .ref 259), (2, .int a2), (3, .ref 267), (4, .int a4), (5, .int a5)], [], rf_MM w (rf_i m4 249 (Int32.toNatClampNeg 0) ((m4.1 249 (Int32.toNatClampNeg 0)) ||| 1)))) (by decide +kernel) rfl (by exact ⟨(rf_in_of (by decide)), (rf_in_of (by decide))⟩) ?_
      refine rf_few [0, 1, 2, 3, 4, 5] rfl ?_
      exact s_X14_divides__259_267_139 C hE hr42 a2 a4 a5 (rf_i m4 249 (Int32.toNatClampNeg 0) ((m4.1 249 (Int32.toNatClampNeg 0)) ||| 1)) hg
    · replace hg := (if_pos hc).symm.trans hg
      refine rf_goto C 26 139 (by decide +kernel) ?_
      refine rf_few [0, 1, 2, 3, 4, 5] rfl ?_
      exact s_X14_divides__259_267_139 C hE hr42 a2 a4 a5 m3 hg
theorem s_X14_divides__259_267_42 {w : rf_w} {K : rf_K} {r : rf_m} (C : rf_Ctx 14 cX14_divides 6 2 (rf_sh w) K) (hE : rf_End none K (rf_sh w) 0 0 none (rf_MM w r)) (n : Nat) : ∀ (a2 : Int32) (a4 : Int32) (a5 : Int32) (m : rf_m), g_X14_divides__259_267_42 w n a2 a4 a5 m = some r → rf_V 6 (rf_sh w) K 0 0 42 ([(0, .ref 206), (1, .ref 259), (2, .int a2), (3, .ref 267), (4, .int a4), (5, .int a5)], [], rf_MM w m) := by
  induction n with
  | zero => intro a2 a4 a5 m hg; cases hg
  | succ n ih => intro a2 a4 a5 m hg; exact s_X14_divides__259_267_42_b C hE ih a2 a4 a5 m hg
theorem c_X14_divides__259_267 {w : rf_w} {m : rf_m} {a2 : Int32} {a4 : Int32} {r : rf_m} (hg : g_X14_divides__259_267 w m a2 a4 = some r) : rf_Con j_X14_divides__259_267 2 (rf_sh w) [.ref 206, .ref 259, .int a2, .ref 267, .int a4] (rf_MM w m) none (rf_MM w r) := by
  refine rf_con j_X14_divides__259_267 2 ⟨by decide +kernel, rfl, Nat.le_of_ble_eq_true rfl⟩ (fun K C hE => ?_)
  unfold g_X14_divides__259_267 at hg
  show rf_V 6 (rf_sh w) K 0 0 0 ([(0, .ref 206), (1, .ref 259), (2, .int a2), (3, .ref 267), (4, .int a4)], [], rf_MM w m)
  refine rf_seg C [(.aload 0, 1), (.invokeinterface 14 72, 3), (.iconst 0, 1), (.goto_w 0, 1)] (pc' := 6) (S' := ([(0, .ref 206), (1, .ref 259), (2, .int a2), (3, .ref 267), (4, .int a4)], [.long 0, .int 0, .ref 249], rf_MM w m)) (by decide +kernel) rfl trivial ?_
  obtain ⟨m0, hc0, hg⟩ := rf_bv_some hg
  refine rf_calls C rf_fit0 j_X14_set__249 (As := [.ref 249, .int 0, .long 0]) (rest := []) mw_X14_set__249 (c_X14_set__249 hc0) (by decide) lk_14_740 rfl rfl (Nat.le_of_ble_eq_true rfl) (by decide +kernel) ?_
  show rf_V 6 (rf_sh w) K 0 0 9 ([(0, .ref 206), (1, .ref 259), (2, .int a2), (3, .ref 267), (4, .int a4)], [], rf_MM w m0)
  refine rf_seg C [(.aload 0, 1), (.invokeinterface 14 73, 3), (.iconst 0, 1), (.goto_w 0, 1)] (pc' := 15) (S' := ([(0, .ref 206), (1, .ref 259), (2, .int a2), (3, .ref 267), (4, .int a4)], [.long 0, .int 0, .ref 250], rf_MM w m0)) (by decide +kernel) rfl trivial ?_
  obtain ⟨m1, hc1, hg⟩ := rf_bv_some hg
  refine rf_calls C rf_fit0 j_X14_set__250 (As := [.ref 250, .int 0, .long 0]) (rest := []) mw_X14_set__250 (c_X14_set__250 hc1) (by decide) lk_14_740 rfl rfl (Nat.le_of_ble_eq_true rfl) (by decide +kernel) ?_
  show rf_V 6 (rf_sh w) K 0 0 18 ([(0, .ref 206), (1, .ref 259), (2, .int a2), (3, .ref 267), (4, .int a4)], [], rf_MM w m1)
  refine rf_seg C [(.aload 0, 1), (.invokeinterface 14 74, 3), (.iconst 0, 1), (.aload 3, 1), (.iload 4, 2)] (pc' := 26) (S' := ([(0, .ref 206), (1, .ref 259), (2, .int a2), (3, .ref 267), (4, .int a4)], [.int a4, .ref 267, .int 0, .ref 251], rf_MM w m1)) (by decide +kernel) rfl trivial ?_
  obtain ⟨m2, hc2, hg⟩ := rf_bv_some hg
  refine rf_calls C rf_fit0 j_X14_copies__251_267 (As := [.ref 251, .int 0, .ref 267, .int a4]) (rest := []) mw_X14_copies__251_267 (c_X14_copies__251_267 hc2) (by decide) lk_14_744 rfl rfl (Nat.le_of_ble_eq_true rfl) (by decide +kernel) ?_
  show rf_V 6 (rf_sh w) K 0 0 29 ([(0, .ref 206), (1, .ref 259), (2, .int a2), (3, .ref 267), (4, .int a4)], [], rf_MM w m2)
  refine rf_seg C [(.aload 0, 1), (.invokeinterface 14 74, 3), (.iconst 0, 1)] (pc' := 34) (S' := ([(0, .ref 206), (1, .ref 259), (2, .int a2), (3, .ref 267), (4, .int a4)], [.int 0, .ref 251], rf_MM w m2)) (by decide +kernel) rfl trivial ?_
  obtain ⟨m3, hc3, hg⟩ := rf_bv_some hg
  refine rf_calls C rf_fit0 j_X14_turns__251 (As := [.ref 251, .int 0]) (rest := []) mw_X14_turns__251 (c_X14_turns__251 hc3) (by decide) lk_14_736 rfl rfl (Nat.le_of_ble_eq_true rfl) (by decide +kernel) ?_
  show rf_V 6 (rf_sh w) K 0 0 37 ([(0, .ref 206), (1, .ref 259), (2, .int a2), (3, .ref 267), (4, .int a4)], [], rf_MM w m3)
  refine rf_seg C [(.iconst 191, 3), (.istore 5, 2)] (pc' := 42) (S' := ([(5, .int 191), (0, .ref 206), (1, .ref 259), (2, .int a2), (3, .ref 267), (4, .int a4)], [], rf_MM w m3)) (by decide +kernel) rfl trivial ?_
  refine rf_few [1, 2, 3, 4, 5, 0] rfl ?_
  exact s_X14_divides__259_267_42 C hE rf_fuel a2 a4 191 m3 hg
-- X14_divides__266_267
abbrev j_X14_divides__266_267 : rf_J := (14, yX14_divides, cX14_divides, 6, none)
theorem mw_X14_divides__266_267 : rf_mv j_X14_divides__266_267 (rf_R 14) 4 := ⟨⟨rf_mem 72 (by decide +kernel), rf_mem 72 (by decide +kernel), rf_mem 0 (by decide +kernel), rf_mem 72 (by decide +kernel)⟩, by decide +kernel, by decide⟩
def g_X14_divides__266_267_139 (w : rf_w) (rec42 : Int32 → Int32 → Int32 → rf_m → Option (rf_m)) (a2 : Int32) (a4 : Int32) (a5 : Int32) (m : rf_m) : Option (rf_m) := rec42 a2 a4 (a5 + (-1)) m
def g_X14_divides__266_267_42_b (w : rf_w) (rec42 : Int32 → Int32 → Int32 → rf_m → Option (rf_m)) (a2 : Int32) (a4 : Int32) (a5 : Int32) (m : rf_m) : Option (rf_m) := (if a5 < 0 then some m else rf_bv (g_X14_adds__250_250 w m 0 0) fun m0 => rf_g (rf_in (a2 + (a5 / 32)) 6) (rf_bv (g_X14_adds__249_249 w (rf_i m0 250 (Int32.toNatClampNeg 0) ((m0.1 250 (Int32.toNatClampNeg 0)) ||| (((Int32.toUInt32 (m0.1 266 (Int32.toNatClampNeg (a2 + (a5 / 32)))) >>> (Int32.toUInt32 (a5 - a5 / 32 * 32) &&& Int32.toUInt32 31)).toInt32) &&& 1))) 0 0) fun m2 => rf_b (g_X14_isNoLess__250_267 w m2 0 a4) fun y3 m3 => (if y3 = 0 then g_X14_divides__266_267_139 w rec42 a2 a4 a5 m3 else rf_bv (g_X14_adds__250_251 w m3 0 0) fun m4 => g_X14_divides__266_267_139 w rec42 a2 a4 a5 (rf_i m4 249 (Int32.toNatClampNeg 0) ((m4.1 249 (Int32.toNatClampNeg 0)) ||| 1)))))
def g_X14_divides__266_267_42 (w : rf_w) : Nat → Int32 → Int32 → Int32 → rf_m → Option (rf_m)
  | 0, _, _, _, _ => none
  | n + 1, a2, a4, a5, m => g_X14_divides__266_267_42_b w (g_X14_divides__266_267_42 w n) a2 a4 a5 m
def g_X14_divides__266_267 (w : rf_w) (m : rf_m) (a2 : Int32) (a4 : Int32) : Option (rf_m) := rf_bv (g_X14_set__249 w m 0 0) fun m0 => rf_bv (g_X14_set__250 w m0 0 0) fun m1 => rf_bv (g_X14_copies__251_267 w m1 0 a4) fun m2 => rf_bv (g_X14_turns__251 w m2 0) fun m3 => g_X14_divides__266_267_42 w rf_fuel a2 a4 191 m3
theorem s_X14_divides__266_267_139 {w : rf_w} {K : rf_K} {r : rf_m} (C : rf_Ctx 14 cX14_divides 6 2 (rf_sh w) K) (hE : rf_End none K (rf_sh w) 0 0 none (rf_MM w r)) {rec42 : Int32 → Int32 → Int32 → rf_m → Option (rf_m)} (hr42 : ∀ (a2 : Int32) (a4 : Int32) (a5 : Int32) (m : rf_m), rec42 a2 a4 a5 m = some r → rf_V 6 (rf_sh w) K 0 0 42 ([(0, .ref 206), (1, .ref 266), (2, .int a2), (3, .ref 267), (4, .int a4), (5, .int a5)], [], rf_MM w m)) (a2 : Int32) (a4 : Int32) (a5 : Int32) (m : rf_m) (hg : g_X14_divides__266_267_139 w rec42 a2 a4 a5 m = some r) : rf_V 6 (rf_sh w) K 0 0 139 ([(0, .ref 206), (1, .ref 266), (2, .int a2), (3, .ref 267), (4, .int a4), (5, .int a5)], [], rf_MM w m) := by
  unfold g_X14_divides__266_267_139 at hg
  refine rf_seg C [(.iinc 5 (-1), 3)] (pc' := 142) (S' := ([(5, .int (a5 + (-1))), (0, .ref 206), (1, .ref 266), (2, .int a2), (3, .ref 267), (4, .int a4)], [], rf_MM w m)) (by decide +kernel) rfl trivial ?_
  refine rf_goto C (-100) 42 (by decide +kernel) ?_
  refine rf_few [1, 2, 3, 4, 5, 0] rfl ?_
  exact hr42 a2 a4 (a5 + (-1)) m hg
theorem s_X14_divides__266_267_42_b {w : rf_w} {K : rf_K} {r : rf_m} (C : rf_Ctx 14 cX14_divides 6 2 (rf_sh w) K) (hE : rf_End none K (rf_sh w) 0 0 none (rf_MM w r)) {rec42 : Int32 → Int32 → Int32 → rf_m → Option (rf_m)} (hr42 : ∀ (a2 : Int32) (a4 : Int32) (a5 : Int32) (m : rf_m), rec42 a2 a4 a5 m = some r → rf_V 6 (rf_sh w) K 0 0 42 ([(0, .ref 206), (1, .ref 266), (2, .int a2), (3, .ref 267), (4, .int a4), (5, .int a5)], [], rf_MM w m)) (a2 : Int32) (a4 : Int32) (a5 : Int32) (m : rf_m) (hg : g_X14_divides__266_267_42_b w rec42 a2 a4 a5 m = some r) : rf_V 6 (rf_sh w) K 0 0 42 ([(0, .ref 206), (1, .ref 266), (2, .int a2), (3, .ref 267), (4, .int a4), (5, .int a5)], [], rf_MM w m) := by
  unfold g_X14_divides__266_267_42_b at hg
  refine rf_seg C [(.iload 5, 2)] (pc' := 44) (S' := ([(0, .ref 206), (1, .ref 266), (2, .int a2), (3, .ref 267), (4, .int a4), (5, .int a5)], [.int a5], rf_MM w m)) (by decide +kernel) rfl trivial ?_
  refine rf_if_lt C 101 145 (by decide +kernel) (fun hc => ?_) (fun hc => ?_)
  · replace hg := (if_pos hc).symm.trans hg
    obtain rfl := Option.some.inj hg
    exact rf_vret C hE (by decide +kernel)
  · replace hg := (if_neg hc).symm.trans hg
    refine rf_seg C [(.aload 0, 1), (.invokeinterface 14 73, 3), (.iconst 0, 1), (.aload 0, 1), (.invokeinterface 14 73, 3), (.iconst 0, 1)] (pc' := 57) (S' := ([(0, .ref 206), (1, .ref 266), (2, .int a2), (3, .ref 267), (4, .int a4), (5, .int a5)], [.int 0, .ref 250, .int 0, .ref 250], rf_MM w m)) (by decide +kernel) rfl trivial ?_
    obtain ⟨m0, hc0, hg⟩ := rf_bv_some hg
    refine rf_calls C rf_fit0 j_X14_adds__250_250 (As := [.ref 250, .int 0, .ref 250, .int 0]) (rest := []) mw_X14_adds__250_250 (c_X14_adds__250_250 hc0) (by decide) lk_14_748 rfl rfl (Nat.le_of_ble_eq_true rfl) (by decide +kernel) ?_
    show rf_V 6 (rf_sh w) K 0 0 60 ([(0, .ref 206), (1, .ref 266), (2, .int a2), (3, .ref 267), (4, .int a4), (5, .int a5)], [], rf_MM w m0)
    obtain ⟨q1, hg⟩ := rf_g_some hg
    refine rf_seg C [(.aload 0, 1), (.invokeinterface 14 73, 3), (.iconst 0, 1), (.dup2, 1), (.iaload, 1), (.aload 1, 1), (.iload 2, 1), (.iload 5, 2), (.iconst 32, 2), (.idiv, 1), (.iadd, 1), (.iaload, 1), (.iload 5, 2), (.iconst 32, 2), (.irem, 1), (.iushr, 1), (.iconst 1, 1), (.iand, 1), (.ior, 1), (.iastore, 1), (.aload 0, 1), (.invokeinterface 14 72, 3), (.iconst 0, 1), (.aload 0, 1), (.invokeinterface 14 72, 3), (.iconst 0, 1)] (pc' := 96) (S' := ([(0, .ref 206), (1, .ref 266), (2, .int a2), (3, .ref 267), (4, .int a4), (5, .int a5)], [.int 0, .ref 249, .int 0, .ref 249], rf_MM w (rf_i m0 250 (Int32.toNatClampNeg 0) ((m0.1 250 (Int32.toNatClampNeg 0)) ||| (((Int32.toUInt32 (m0.1 266 (Int32.toNatClampNeg (a2 + (a5 / 32)))) >>> (Int32.toUInt32 (a5 - a5 / 32 * 32) &&& Int32.toUInt32 31)).toInt32) &&& 1))))) (by decide +kernel) rfl (by exact ⟨(rf_in_of (by decide)), (rf_nz_of (by decide)), (rf_in_of q1), (rf_nz_of (by decide)), (rf_in_of (by decide))⟩) ?_
    obtain ⟨m2, hc2, hg⟩ := rf_bv_some hg
    refine rf_calls C rf_fit0 j_X14_adds__249_249 (As := [.ref 249, .int 0, .ref 249, .int 0]) (rest := []) mw_X14_adds__249_249 (c_X14_adds__249_249 hc2) (by decide) lk_14_748 rfl rfl (Nat.le_of_ble_eq_true rfl) (by decide +kernel) ?_
    show rf_V 6 (rf_sh w) K 0 0 99 ([(0, .ref 206), (1, .ref 266), (2, .int a2), (3, .ref 267), (4, .int a4), (5, .int a5)], [], rf_MM w m2)
    refine rf_seg C [(.aload 0, 1), (.invokeinterface 14 73, 3), (.iconst 0, 1), (.aload 3, 1), (.iload 4, 2)] (pc' := 107) (S' := ([(0, .ref 206), (1, .ref 266), (2, .int a2), (3, .ref 267), (4, .int a4), (5, .int a5)], [.int a4, .ref 267, .int 0, .ref 250], rf_MM w m2)) (by decide +kernel) rfl trivial ?_
    obtain ⟨y3, m3, hc3, hg⟩ := rf_b_some hg
    refine rf_calls C rf_fit0 j_X14_isNoLess__250_267 (As := [.ref 250, .int 0, .ref 267, .int a4]) (rest := []) mw_X14_isNoLess__250_267 (c_X14_isNoLess__250_267 hc3) (by decide) lk_14_751 rfl rfl (Nat.le_of_ble_eq_true rfl) (by decide +kernel) ?_
    show rf_V 6 (rf_sh w) K 0 0 110 ([(0, .ref 206), (1, .ref 266), (2, .int a2), (3, .ref 267), (4, .int a4), (5, .int a5)], [.int y3], rf_MM w m3)
    refine rf_if_ne C 6 116 (by decide +kernel) (fun hc => ?_) (fun hc => ?_)
    · replace hg := (if_neg hc).symm.trans hg
      refine rf_seg C [(.aload 0, 1), (.invokeinterface 14 73, 3), (.iconst 0, 1), (.aload 0, 1), (.invokeinterface 14 74, 3), (.iconst 0, 1)] (pc' := 126) (S' := ([(0, .ref 206), (1, .ref 266), (2, .int a2), (3, .ref 267), (4, .int a4), (5, .int a5)], [.int 0, .ref 251, .int 0, .ref 250], rf_MM w m3)) (by decide +kernel) rfl trivial ?_
      obtain ⟨m4, hc4, hg⟩ := rf_bv_some hg
      refine rf_calls C rf_fit0 j_X14_adds__250_251 (As := [.ref 250, .int 0, .ref 251, .int 0]) (rest := []) mw_X14_adds__250_251 (c_X14_adds__250_251 hc4) (by decide) lk_14_748 rfl rfl (Nat.le_of_ble_eq_true rfl) (by decide +kernel) ?_
      show rf_V 6 (rf_sh w) K 0 0 129 ([(0, .ref 206), (1, .ref 266), (2, .int a2), (3, .ref 267), (4, .int a4), (5, .int a5)], [], rf_MM w m4)
      refine rf_seg C [(.aload 0, 1), (.invokeinterface 14 72, 3), (.iconst 0, 1), (.dup2, 1), (.iaload, 1), (.iconst 1, 1), (.ior, 1), (.iastore, 1)] (pc' := 139) (S' := ([(0, .ref 206), (1, .ref 266), (2, .int a2), (3, .ref 267), (4, .int a4), (5, .int a5)], [], rf_MM w (rf_i m4 249 (Int32.toNatClampNeg 0) ((m4.1 249 (Int32.toNatClampNeg 0)) ||| 1)))) (by decide +kernel) rfl (by exact ⟨(rf_in_of (by decide)), (rf_in_of (by decide))⟩) ?_
      refine rf_few [0, 1, 2, 3, 4, 5] rfl ?_
      exact s_X14_divides__266_267_139 C hE hr42 a2 a4 a5 (rf_i m4 249 (Int32.toNatClampNeg 0) ((m4.1 249 (Int32.toNatClampNeg 0)) ||| 1)) hg
    · replace hg := (if_pos hc).symm.trans hg
      refine rf_goto C 26 139 (by decide +kernel) ?_
      refine rf_few [0, 1, 2, 3, 4, 5] rfl ?_
      exact s_X14_divides__266_267_139 C hE hr42 a2 a4 a5 m3 hg
theorem s_X14_divides__266_267_42 {w : rf_w} {K : rf_K} {r : rf_m} (C : rf_Ctx 14 cX14_divides 6 2 (rf_sh w) K) (hE : rf_End none K (rf_sh w) 0 0 none (rf_MM w r)) (n : Nat) : ∀ (a2 : Int32) (a4 : Int32) (a5 : Int32) (m : rf_m), g_X14_divides__266_267_42 w n a2 a4 a5 m = some r → rf_V 6 (rf_sh w) K 0 0 42 ([(0, .ref 206), (1, .ref 266), (2, .int a2), (3, .ref 267), (4, .int a4), (5, .int a5)], [], rf_MM w m) := by
  induction n with
  | zero => intro a2 a4 a5 m hg; cases hg
  | succ n ih => intro a2 a4 a5 m hg; exact s_X14_divides__266_267_42_b C hE ih a2 a4 a5 m hg
theorem c_X14_divides__266_267 {w : rf_w} {m : rf_m} {a2 : Int32} {a4 : Int32} {r : rf_m} (hg : g_X14_divides__266_267 w m a2 a4 = some r) : rf_Con j_X14_divides__266_267 2 (rf_sh w) [.ref 206, .ref 266, .int a2, .ref 267, .int a4] (rf_MM w m) none (rf_MM w r) := by
  refine rf_con j_X14_divides__266_267 2 ⟨by decide +kernel, rfl, Nat.le_of_ble_eq_true rfl⟩ (fun K C hE => ?_)
  unfold g_X14_divides__266_267 at hg
  show rf_V 6 (rf_sh w) K 0 0 0 ([(0, .ref 206), (1, .ref 266), (2, .int a2), (3, .ref 267), (4, .int a4)], [], rf_MM w m)
  refine rf_seg C [(.aload 0, 1), (.invokeinterface 14 72, 3), (.iconst 0, 1), (.goto_w 0, 1)] (pc' := 6) (S' := ([(0, .ref 206), (1, .ref 266), (2, .int a2), (3, .ref 267), (4, .int a4)], [.long 0, .int 0, .ref 249], rf_MM w m)) (by decide +kernel) rfl trivial ?_
  obtain ⟨m0, hc0, hg⟩ := rf_bv_some hg
  refine rf_calls C rf_fit0 j_X14_set__249 (As := [.ref 249, .int 0, .long 0]) (rest := []) mw_X14_set__249 (c_X14_set__249 hc0) (by decide) lk_14_740 rfl rfl (Nat.le_of_ble_eq_true rfl) (by decide +kernel) ?_
  show rf_V 6 (rf_sh w) K 0 0 9 ([(0, .ref 206), (1, .ref 266), (2, .int a2), (3, .ref 267), (4, .int a4)], [], rf_MM w m0)
  refine rf_seg C [(.aload 0, 1), (.invokeinterface 14 73, 3), (.iconst 0, 1), (.goto_w 0, 1)] (pc' := 15) (S' := ([(0, .ref 206), (1, .ref 266), (2, .int a2), (3, .ref 267), (4, .int a4)], [.long 0, .int 0, .ref 250], rf_MM w m0)) (by decide +kernel) rfl trivial ?_
  obtain ⟨m1, hc1, hg⟩ := rf_bv_some hg
  refine rf_calls C rf_fit0 j_X14_set__250 (As := [.ref 250, .int 0, .long 0]) (rest := []) mw_X14_set__250 (c_X14_set__250 hc1) (by decide) lk_14_740 rfl rfl (Nat.le_of_ble_eq_true rfl) (by decide +kernel) ?_
  show rf_V 6 (rf_sh w) K 0 0 18 ([(0, .ref 206), (1, .ref 266), (2, .int a2), (3, .ref 267), (4, .int a4)], [], rf_MM w m1)
  refine rf_seg C [(.aload 0, 1), (.invokeinterface 14 74, 3), (.iconst 0, 1), (.aload 3, 1), (.iload 4, 2)] (pc' := 26) (S' := ([(0, .ref 206), (1, .ref 266), (2, .int a2), (3, .ref 267), (4, .int a4)], [.int a4, .ref 267, .int 0, .ref 251], rf_MM w m1)) (by decide +kernel) rfl trivial ?_
  obtain ⟨m2, hc2, hg⟩ := rf_bv_some hg
  refine rf_calls C rf_fit0 j_X14_copies__251_267 (As := [.ref 251, .int 0, .ref 267, .int a4]) (rest := []) mw_X14_copies__251_267 (c_X14_copies__251_267 hc2) (by decide) lk_14_744 rfl rfl (Nat.le_of_ble_eq_true rfl) (by decide +kernel) ?_
  show rf_V 6 (rf_sh w) K 0 0 29 ([(0, .ref 206), (1, .ref 266), (2, .int a2), (3, .ref 267), (4, .int a4)], [], rf_MM w m2)
  refine rf_seg C [(.aload 0, 1), (.invokeinterface 14 74, 3), (.iconst 0, 1)] (pc' := 34) (S' := ([(0, .ref 206), (1, .ref 266), (2, .int a2), (3, .ref 267), (4, .int a4)], [.int 0, .ref 251], rf_MM w m2)) (by decide +kernel) rfl trivial ?_
  obtain ⟨m3, hc3, hg⟩ := rf_bv_some hg
  refine rf_calls C rf_fit0 j_X14_turns__251 (As := [.ref 251, .int 0]) (rest := []) mw_X14_turns__251 (c_X14_turns__251 hc3) (by decide) lk_14_736 rfl rfl (Nat.le_of_ble_eq_true rfl) (by decide +kernel) ?_
  show rf_V 6 (rf_sh w) K 0 0 37 ([(0, .ref 206), (1, .ref 266), (2, .int a2), (3, .ref 267), (4, .int a4)], [], rf_MM w m3)
  refine rf_seg C [(.iconst 191, 3), (.istore 5, 2)] (pc' := 42) (S' := ([(5, .int 191), (0, .ref 206), (1, .ref 266), (2, .int a2), (3, .ref 267), (4, .int a4)], [], rf_MM w m3)) (by decide +kernel) rfl trivial ?_
  refine rf_few [1, 2, 3, 4, 5, 0] rfl ?_
  exact s_X14_divides__266_267_42 C hE rf_fuel a2 a4 191 m3 hg
-- X14_isZero__266
abbrev j_X14_isZero__266 : rf_J := (14, yX14_isZero, cX14_isZero, 4, (some .boolean))
theorem mw_X14_isZero__266 : rf_ms j_X14_isZero__266 2 := ⟨⟨rf_mem 72 (by decide +kernel), rf_mem 0 (by decide +kernel), rf_mem 72 (by decide +kernel)⟩, by decide +kernel, by decide⟩
def g_X14_isZero__266_27 (w : rf_w) (rec4 : Int32 → Int32 → Int32 → rf_m → Option (Int32 × rf_m)) (a1 : Int32) (a3 : Int32) (s0 : Int32) (m : rf_m) : Option (Int32 × rf_m) := rec4 a1 s0 (a3 + 1) m
def g_X14_isZero__266_26 (w : rf_w) (rec4 : Int32 → Int32 → Int32 → rf_m → Option (Int32 × rf_m)) (a1 : Int32) (a3 : Int32) (m : rf_m) : Option (Int32 × rf_m) := g_X14_isZero__266_27 w rec4 a1 a3 0 m
def g_X14_isZero__266_4_b (w : rf_w) (rec4 : Int32 → Int32 → Int32 → rf_m → Option (Int32 × rf_m)) (a1 : Int32) (a2 : Int32) (a3 : Int32) (m : rf_m) : Option (Int32 × rf_m) := (if 6 ≤ a3 then rf_g (rf_01 a2) (some (a2, m)) else (if a2 = 0 then g_X14_isZero__266_26 w rec4 a1 a3 m else rf_g (rf_in (a1 + a3) 6) ((if (m.1 266 (Int32.toNatClampNeg (a1 + a3))) = 0 then g_X14_isZero__266_27 w rec4 a1 a3 1 m else g_X14_isZero__266_26 w rec4 a1 a3 m))))
def g_X14_isZero__266_4 (w : rf_w) : Nat → Int32 → Int32 → Int32 → rf_m → Option (Int32 × rf_m)
  | 0, _, _, _, _ => none
  | n + 1, a1, a2, a3, m => g_X14_isZero__266_4_b w (g_X14_isZero__266_4 w n) a1 a2 a3 m
def g_X14_isZero__266 (w : rf_w) (m : rf_m) (a1 : Int32) : Option (Int32 × rf_m) := g_X14_isZero__266_4 w rf_fuel a1 1 0 m
theorem s_X14_isZero__266_27 {w : rf_w} {K : rf_K} {r : Int32 × rf_m} (C : rf_Ctx 14 cX14_isZero 4 1 (rf_sh w) K) (hE : rf_End (some .boolean) K (rf_sh w) 0 0 (some (.int r.1)) (rf_MM w r.2)) {rec4 : Int32 → Int32 → Int32 → rf_m → Option (Int32 × rf_m)} (hr4 : ∀ (a1 : Int32) (a2 : Int32) (a3 : Int32) (m : rf_m), rec4 a1 a2 a3 m = some r → rf_V 4 (rf_sh w) K 0 0 4 ([(0, .ref 266), (1, .int a1), (2, .int a2), (3, .int a3)], [], rf_MM w m)) (a1 : Int32) (a3 : Int32) (s0 : Int32) (m : rf_m) (hg : g_X14_isZero__266_27 w rec4 a1 a3 s0 m = some r) : rf_V 4 (rf_sh w) K 0 0 27 ([(0, .ref 266), (1, .int a1), (3, .int a3)], [.int s0], rf_MM w m) := by
  unfold g_X14_isZero__266_27 at hg
  refine rf_seg C [(.istore 2, 1), (.iinc 3 1, 3)] (pc' := 31) (S' := ([(3, .int (a3 + 1)), (2, .int s0), (0, .ref 266), (1, .int a1)], [], rf_MM w m)) (by decide +kernel) rfl trivial ?_
  refine rf_goto C (-27) 4 (by decide +kernel) ?_
  refine rf_few [2, 3, 1, 0] rfl ?_
  exact hr4 a1 s0 (a3 + 1) m hg
theorem s_X14_isZero__266_26 {w : rf_w} {K : rf_K} {r : Int32 × rf_m} (C : rf_Ctx 14 cX14_isZero 4 1 (rf_sh w) K) (hE : rf_End (some .boolean) K (rf_sh w) 0 0 (some (.int r.1)) (rf_MM w r.2)) {rec4 : Int32 → Int32 → Int32 → rf_m → Option (Int32 × rf_m)} (hr4 : ∀ (a1 : Int32) (a2 : Int32) (a3 : Int32) (m : rf_m), rec4 a1 a2 a3 m = some r → rf_V 4 (rf_sh w) K 0 0 4 ([(0, .ref 266), (1, .int a1), (2, .int a2), (3, .int a3)], [], rf_MM w m)) (a1 : Int32) (a3 : Int32) (m : rf_m) (hg : g_X14_isZero__266_26 w rec4 a1 a3 m = some r) : rf_V 4 (rf_sh w) K 0 0 26 ([(0, .ref 266), (1, .int a1), (3, .int a3)], [], rf_MM w m) := by
  unfold g_X14_isZero__266_26 at hg
  refine rf_seg C [(.iconst 0, 1)] (pc' := 27) (S' := ([(0, .ref 266), (1, .int a1), (3, .int a3)], [.int 0], rf_MM w m)) (by decide +kernel) rfl trivial ?_
  refine rf_few [0, 1, 2] rfl ?_
  exact s_X14_isZero__266_27 C hE hr4 a1 a3 0 m hg
theorem s_X14_isZero__266_4_b {w : rf_w} {K : rf_K} {r : Int32 × rf_m} (C : rf_Ctx 14 cX14_isZero 4 1 (rf_sh w) K) (hE : rf_End (some .boolean) K (rf_sh w) 0 0 (some (.int r.1)) (rf_MM w r.2)) {rec4 : Int32 → Int32 → Int32 → rf_m → Option (Int32 × rf_m)} (hr4 : ∀ (a1 : Int32) (a2 : Int32) (a3 : Int32) (m : rf_m), rec4 a1 a2 a3 m = some r → rf_V 4 (rf_sh w) K 0 0 4 ([(0, .ref 266), (1, .int a1), (2, .int a2), (3, .int a3)], [], rf_MM w m)) (a1 : Int32) (a2 : Int32) (a3 : Int32) (m : rf_m) (hg : g_X14_isZero__266_4_b w rec4 a1 a2 a3 m = some r) : rf_V 4 (rf_sh w) K 0 0 4 ([(0, .ref 266), (1, .int a1), (2, .int a2), (3, .int a3)], [], rf_MM w m) := by
  unfold g_X14_isZero__266_4_b at hg
  refine rf_seg C [(.iload 3, 1), (.iconst 6, 2)] (pc' := 7) (S' := ([(0, .ref 266), (1, .int a1), (2, .int a2), (3, .int a3)], [.int 6, .int a3], rf_MM w m)) (by decide +kernel) rfl trivial ?_
  refine rf_icmp_ge C 27 34 (by decide +kernel) (fun hc => ?_) (fun hc => ?_)
  · replace hg := (if_pos hc).symm.trans hg
    refine rf_seg C [(.iload 2, 1)] (pc' := 35) (S' := ([(0, .ref 266), (1, .int a1), (2, .int a2), (3, .int a3)], [.int a2], rf_MM w m)) (by decide +kernel) rfl trivial ?_
    obtain ⟨q01, hg⟩ := rf_g_some hg
    obtain rfl := Option.some.inj hg
    exact rf_zret C hE (rf_01_of q01) (by decide +kernel)
  · replace hg := (if_neg hc).symm.trans hg
    refine rf_seg C [(.iload 2, 1)] (pc' := 11) (S' := ([(0, .ref 266), (1, .int a1), (2, .int a2), (3, .int a3)], [.int a2], rf_MM w m)) (by decide +kernel) rfl trivial ?_
    refine rf_if_eq C 15 26 (by decide +kernel) (fun hc => ?_) (fun hc => ?_)
    · replace hg := (if_pos hc).symm.trans hg
      refine rf_few [0, 1, 3] rfl ?_
      exact s_X14_isZero__266_26 C hE hr4 a1 a3 m hg
    · replace hg := (if_neg hc).symm.trans hg
      obtain ⟨q0, hg⟩ := rf_g_some hg
      refine rf_seg C [(.aload 0, 1), (.iload 1, 1), (.iload 3, 1), (.iadd, 1), (.iaload, 1)] (pc' := 19) (S' := ([(0, .ref 266), (1, .int a1), (2, .int a2), (3, .int a3)], [.int (m.1 266 (Int32.toNatClampNeg (a1 + a3)))], rf_MM w m)) (by decide +kernel) rfl (rf_in_of q0) ?_
      refine rf_if_ne C 7 26 (by decide +kernel) (fun hc => ?_) (fun hc => ?_)
      · replace hg := (if_neg hc).symm.trans hg
        refine rf_few [0, 1, 3] rfl ?_
        exact s_X14_isZero__266_26 C hE hr4 a1 a3 m hg
      · replace hg := (if_pos hc).symm.trans hg
        refine rf_seg C [(.iconst 1, 1)] (pc' := 23) (S' := ([(0, .ref 266), (1, .int a1), (2, .int a2), (3, .int a3)], [.int 1], rf_MM w m)) (by decide +kernel) rfl trivial ?_
        refine rf_goto C 4 27 (by decide +kernel) ?_
        refine rf_few [0, 1, 3] rfl ?_
        exact s_X14_isZero__266_27 C hE hr4 a1 a3 1 m hg
theorem s_X14_isZero__266_4 {w : rf_w} {K : rf_K} {r : Int32 × rf_m} (C : rf_Ctx 14 cX14_isZero 4 1 (rf_sh w) K) (hE : rf_End (some .boolean) K (rf_sh w) 0 0 (some (.int r.1)) (rf_MM w r.2)) (n : Nat) : ∀ (a1 : Int32) (a2 : Int32) (a3 : Int32) (m : rf_m), g_X14_isZero__266_4 w n a1 a2 a3 m = some r → rf_V 4 (rf_sh w) K 0 0 4 ([(0, .ref 266), (1, .int a1), (2, .int a2), (3, .int a3)], [], rf_MM w m) := by
  induction n with
  | zero => intro a1 a2 a3 m hg; cases hg
  | succ n ih => intro a1 a2 a3 m hg; exact s_X14_isZero__266_4_b C hE ih a1 a2 a3 m hg
theorem c_X14_isZero__266 {w : rf_w} {m : rf_m} {a1 : Int32} {r : Int32 × rf_m} (hg : g_X14_isZero__266 w m a1 = some r) : rf_Con j_X14_isZero__266 1 (rf_sh w) [.ref 266, .int a1] (rf_MM w m) (some (.int r.1)) (rf_MM w r.2) := by
  refine rf_con j_X14_isZero__266 1 ⟨by decide +kernel, rfl, Nat.le_of_ble_eq_true rfl⟩ (fun K C hE => ?_)
  unfold g_X14_isZero__266 at hg
  show rf_V 4 (rf_sh w) K 0 0 0 ([(0, .ref 266), (1, .int a1)], [], rf_MM w m)
  refine rf_seg C [(.iconst 1, 1), (.istore 2, 1), (.iconst 0, 1), (.istore 3, 1)] (pc' := 4) (S' := ([(3, .int 0), (2, .int 1), (0, .ref 266), (1, .int a1)], [], rf_MM w m)) (by decide +kernel) rfl trivial ?_
  refine rf_few [2, 3, 1, 0] rfl ?_
  exact s_X14_isZero__266_4 C hE rf_fuel a1 1 0 m hg
-- X14_copies__266_264
abbrev j_X14_copies__266_264 : rf_J := (14, yX14_copies, cX14_copies, 5, none)
theorem mw_X14_copies__266_264 : rf_ms j_X14_copies__266_264 4 := ⟨⟨rf_mem 71 (by decide +kernel), rf_mem 0 (by decide +kernel), rf_mem 71 (by decide +kernel)⟩, by decide +kernel, by decide⟩
def g_X14_copies__266_264_3_b (w : rf_w) (rec3 : Int32 → Int32 → Int32 → rf_m → Option (rf_m)) (a1 : Int32) (a3 : Int32) (a4 : Int32) (m : rf_m) : Option (rf_m) := (if 6 ≤ a4 then some m else rf_g (rf_in (a3 + a4) 480) (rf_g (rf_in (a1 + a4) 6) (rec3 a1 a3 (a4 + 1) (rf_i m 266 (Int32.toNatClampNeg (a1 + a4)) (m.1 264 (Int32.toNatClampNeg (a3 + a4)))))))
def g_X14_copies__266_264_3 (w : rf_w) : Nat → Int32 → Int32 → Int32 → rf_m → Option (rf_m)
  | 0, _, _, _, _ => none
  | n + 1, a1, a3, a4, m => g_X14_copies__266_264_3_b w (g_X14_copies__266_264_3 w n) a1 a3 a4 m
def g_X14_copies__266_264 (w : rf_w) (m : rf_m) (a1 : Int32) (a3 : Int32) : Option (rf_m) := g_X14_copies__266_264_3 w rf_fuel a1 a3 0 m
theorem s_X14_copies__266_264_3_b {w : rf_w} {K : rf_K} {r : rf_m} (C : rf_Ctx 14 cX14_copies 5 1 (rf_sh w) K) (hE : rf_End none K (rf_sh w) 0 0 none (rf_MM w r)) {rec3 : Int32 → Int32 → Int32 → rf_m → Option (rf_m)} (hr3 : ∀ (a1 : Int32) (a3 : Int32) (a4 : Int32) (m : rf_m), rec3 a1 a3 a4 m = some r → rf_V 5 (rf_sh w) K 0 0 3 ([(0, .ref 266), (1, .int a1), (2, .ref 264), (3, .int a3), (4, .int a4)], [], rf_MM w m)) (a1 : Int32) (a3 : Int32) (a4 : Int32) (m : rf_m) (hg : g_X14_copies__266_264_3_b w rec3 a1 a3 a4 m = some r) : rf_V 5 (rf_sh w) K 0 0 3 ([(0, .ref 266), (1, .int a1), (2, .ref 264), (3, .int a3), (4, .int a4)], [], rf_MM w m) := by
  unfold g_X14_copies__266_264_3_b at hg
  refine rf_seg C [(.iload 4, 2), (.iconst 6, 2)] (pc' := 7) (S' := ([(0, .ref 266), (1, .int a1), (2, .ref 264), (3, .int a3), (4, .int a4)], [.int 6, .int a4], rf_MM w m)) (by decide +kernel) rfl trivial ?_
  refine rf_icmp_ge C 21 28 (by decide +kernel) (fun hc => ?_) (fun hc => ?_)
  · replace hg := (if_pos hc).symm.trans hg
    obtain rfl := Option.some.inj hg
    exact rf_vret C hE (by decide +kernel)
  · replace hg := (if_neg hc).symm.trans hg
    obtain ⟨q0, hg⟩ := rf_g_some hg
    obtain ⟨q1, hg⟩ := rf_g_some hg
    refine rf_seg C [(.aload 0, 1), (.iload 1, 1), (.iload 4, 2), (.iadd, 1), (.aload 2, 1), (.iload 3, 1), (.iload 4, 2), (.iadd, 1), (.iaload, 1), (.iastore, 1), (.iinc 4 1, 3)] (pc' := 25) (S' := ([(4, .int (a4 + 1)), (0, .ref 266), (1, .int a1), (2, .ref 264), (3, .int a3)], [], rf_MM w (rf_i m 266 (Int32.toNatClampNeg (a1 + a4)) (m.1 264 (Int32.toNatClampNeg (a3 + a4)))))) (by decide +kernel) rfl (by exact ⟨(rf_in_of q0), (rf_in_of q1)⟩) ?_
    refine rf_goto C (-22) 3 (by decide +kernel) ?_
    refine rf_few [1, 2, 3, 4, 0] rfl ?_
    exact hr3 a1 a3 (a4 + 1) (rf_i m 266 (Int32.toNatClampNeg (a1 + a4)) (m.1 264 (Int32.toNatClampNeg (a3 + a4)))) hg
theorem s_X14_copies__266_264_3 {w : rf_w} {K : rf_K} {r : rf_m} (C : rf_Ctx 14 cX14_copies 5 1 (rf_sh w) K) (hE : rf_End none K (rf_sh w) 0 0 none (rf_MM w r)) (n : Nat) : ∀ (a1 : Int32) (a3 : Int32) (a4 : Int32) (m : rf_m), g_X14_copies__266_264_3 w n a1 a3 a4 m = some r → rf_V 5 (rf_sh w) K 0 0 3 ([(0, .ref 266), (1, .int a1), (2, .ref 264), (3, .int a3), (4, .int a4)], [], rf_MM w m) := by
  induction n with
  | zero => intro a1 a3 a4 m hg; cases hg
  | succ n ih => intro a1 a3 a4 m hg; exact s_X14_copies__266_264_3_b C hE ih a1 a3 a4 m hg
theorem c_X14_copies__266_264 {w : rf_w} {m : rf_m} {a1 : Int32} {a3 : Int32} {r : rf_m} (hg : g_X14_copies__266_264 w m a1 a3 = some r) : rf_Con j_X14_copies__266_264 1 (rf_sh w) [.ref 266, .int a1, .ref 264, .int a3] (rf_MM w m) none (rf_MM w r) := by
  refine rf_con j_X14_copies__266_264 1 ⟨by decide +kernel, rfl, Nat.le_of_ble_eq_true rfl⟩ (fun K C hE => ?_)
  unfold g_X14_copies__266_264 at hg
  show rf_V 5 (rf_sh w) K 0 0 0 ([(0, .ref 266), (1, .int a1), (2, .ref 264), (3, .int a3)], [], rf_MM w m)
  refine rf_seg C [(.iconst 0, 1), (.istore 4, 2)] (pc' := 3) (S' := ([(4, .int 0), (0, .ref 266), (1, .int a1), (2, .ref 264), (3, .int a3)], [], rf_MM w m)) (by decide +kernel) rfl trivial ?_
  refine rf_few [1, 2, 3, 4, 0] rfl ?_
  exact s_X14_copies__266_264_3 C hE rf_fuel a1 a3 0 m hg
-- X14_turns__266
abbrev j_X14_turns__266 : rf_J := (14, yX14_turns, cX14_turns, 5, none)
theorem mw_X14_turns__266 : rf_ms j_X14_turns__266 2 := ⟨⟨rf_mem 71 (by decide +kernel), rf_mem 0 (by decide +kernel), rf_mem 71 (by decide +kernel)⟩, by decide +kernel, by decide⟩
def g_X14_turns__266_5_b (w : rf_w) (rec5 : Int32 → Int64 → Int32 → rf_m → Option (rf_m)) (a1 : Int32) (a2 : Int64) (a4 : Int32) (m : rf_m) : Option (rf_m) := (if 6 ≤ a4 then some m else rf_g (rf_in (a1 + a4) 6) (rf_vl (a2 + ((Int32.toInt64 ((m.1 266 (Int32.toNatClampNeg (a1 + a4))) ^^^ ((-1)))) &&& 4294967295)) fun x1 => rf_g (rf_in (a1 + a4) 6) (rf_vl ((Int64.toUInt64 x1 >>> ((Int32.toInt64 32).toUInt64 &&& Int64.toUInt64 63)).toInt64) fun x3 => rec5 a1 x3 (a4 + 1) (rf_i m 266 (Int32.toNatClampNeg (a1 + a4)) (Int64.toInt32 x1)))))
def g_X14_turns__266_5 (w : rf_w) : Nat → Int32 → Int64 → Int32 → rf_m → Option (rf_m)
  | 0, _, _, _, _ => none
  | n + 1, a1, a2, a4, m => g_X14_turns__266_5_b w (g_X14_turns__266_5 w n) a1 a2 a4 m
def g_X14_turns__266 (w : rf_w) (m : rf_m) (a1 : Int32) : Option (rf_m) := g_X14_turns__266_5 w rf_fuel a1 1 0 m
theorem s_X14_turns__266_5_b {w : rf_w} {K : rf_K} {r : rf_m} (C : rf_Ctx 14 cX14_turns 5 1 (rf_sh w) K) (hE : rf_End none K (rf_sh w) 0 0 none (rf_MM w r)) {rec5 : Int32 → Int64 → Int32 → rf_m → Option (rf_m)} (hr5 : ∀ (a1 : Int32) (a2 : Int64) (a4 : Int32) (m : rf_m), rec5 a1 a2 a4 m = some r → rf_V 5 (rf_sh w) K 0 0 5 ([(0, .ref 266), (1, .int a1), (2, .long a2), (4, .int a4)], [], rf_MM w m)) (a1 : Int32) (a2 : Int64) (a4 : Int32) (m : rf_m) (hg : g_X14_turns__266_5_b w rec5 a1 a2 a4 m = some r) : rf_V 5 (rf_sh w) K 0 0 5 ([(0, .ref 266), (1, .int a1), (2, .long a2), (4, .int a4)], [], rf_MM w m) := by
  unfold g_X14_turns__266_5_b at hg
  refine rf_seg C [(.iload 4, 2), (.iconst 6, 2)] (pc' := 9) (S' := ([(0, .ref 266), (1, .int a1), (2, .long a2), (4, .int a4)], [.int 6, .int a4], rf_MM w m)) (by decide +kernel) rfl trivial ?_
  refine rf_icmp_ge C 38 47 (by decide +kernel) (fun hc => ?_) (fun hc => ?_)
  · replace hg := (if_pos hc).symm.trans hg
    obtain rfl := Option.some.inj hg
    exact rf_vret C hE (by decide +kernel)
  · replace hg := (if_neg hc).symm.trans hg
    obtain ⟨q0, hg⟩ := rf_g_some hg
    refine rf_seg C [(.lload 2, 1), (.aload 0, 1), (.iload 1, 1), (.iload 4, 2), (.iadd, 1), (.iaload, 1), (.iconst (-1), 1), (.ixor, 1), (.i2l, 1), (.goto_w 4294967295, 3), (.land, 1), (.ladd, 1)] (pc' := 27) (S' := ([(0, .ref 266), (1, .int a1), (2, .long a2), (4, .int a4)], [.long (a2 + ((Int32.toInt64 ((m.1 266 (Int32.toNatClampNeg (a1 + a4))) ^^^ ((-1)))) &&& 4294967295))], rf_MM w m)) (by decide +kernel) rfl (rf_in_of q0) ?_
    obtain ⟨x1, hx1, hg⟩ := rf_vl_some hg
    refine rf_vl_top hx1 ?_
    obtain ⟨q2, hg⟩ := rf_g_some hg
    refine rf_seg C [(.lstore 2, 1), (.aload 0, 1), (.iload 1, 1), (.iload 4, 2), (.iadd, 1), (.lload 2, 1), (.l2i, 1), (.iastore, 1), (.lload 2, 1), (.iconst 32, 2), (.lushr, 1)] (pc' := 40) (S' := ([(2, .long x1), (0, .ref 266), (1, .int a1), (4, .int a4)], [.long ((Int64.toUInt64 x1 >>> ((Int32.toInt64 32).toUInt64 &&& Int64.toUInt64 63)).toInt64)], rf_MM w (rf_i m 266 (Int32.toNatClampNeg (a1 + a4)) (Int64.toInt32 x1)))) (by decide +kernel) rfl (rf_in_of q2) ?_
    obtain ⟨x3, hx3, hg⟩ := rf_vl_some hg
    refine rf_vl_top hx3 ?_
    refine rf_seg C [(.lstore 2, 1), (.iinc 4 1, 3)] (pc' := 44) (S' := ([(4, .int (a4 + 1)), (2, .long x3), (0, .ref 266), (1, .int a1)], [], rf_MM w (rf_i m 266 (Int32.toNatClampNeg (a1 + a4)) (Int64.toInt32 x1)))) (by decide +kernel) rfl trivial ?_
    refine rf_goto C (-39) 5 (by decide +kernel) ?_
    refine rf_few [2, 3, 1, 0] rfl ?_
    exact hr5 a1 x3 (a4 + 1) (rf_i m 266 (Int32.toNatClampNeg (a1 + a4)) (Int64.toInt32 x1)) hg
theorem s_X14_turns__266_5 {w : rf_w} {K : rf_K} {r : rf_m} (C : rf_Ctx 14 cX14_turns 5 1 (rf_sh w) K) (hE : rf_End none K (rf_sh w) 0 0 none (rf_MM w r)) (n : Nat) : ∀ (a1 : Int32) (a2 : Int64) (a4 : Int32) (m : rf_m), g_X14_turns__266_5 w n a1 a2 a4 m = some r → rf_V 5 (rf_sh w) K 0 0 5 ([(0, .ref 266), (1, .int a1), (2, .long a2), (4, .int a4)], [], rf_MM w m) := by
  induction n with
  | zero => intro a1 a2 a4 m hg; cases hg
  | succ n ih => intro a1 a2 a4 m hg; exact s_X14_turns__266_5_b C hE ih a1 a2 a4 m hg
theorem c_X14_turns__266 {w : rf_w} {m : rf_m} {a1 : Int32} {r : rf_m} (hg : g_X14_turns__266 w m a1 = some r) : rf_Con j_X14_turns__266 1 (rf_sh w) [.ref 266, .int a1] (rf_MM w m) none (rf_MM w r) := by
  refine rf_con j_X14_turns__266 1 ⟨by decide +kernel, rfl, Nat.le_of_ble_eq_true rfl⟩ (fun K C hE => ?_)
  unfold g_X14_turns__266 at hg
  show rf_V 5 (rf_sh w) K 0 0 0 ([(0, .ref 266), (1, .int a1)], [], rf_MM w m)
  refine rf_seg C [(.goto_w 1, 1), (.lstore 2, 1), (.iconst 0, 1), (.istore 4, 2)] (pc' := 5) (S' := ([(4, .int 0), (2, .long 1), (0, .ref 266), (1, .int a1)], [], rf_MM w m)) (by decide +kernel) rfl trivial ?_
  refine rf_few [2, 3, 1, 0] rfl ?_
  exact s_X14_turns__266_5 C hE rf_fuel a1 1 0 m hg
-- X14_isNoLess__250_266
abbrev j_X14_isNoLess__250_266 : rf_J := (14, yX14_isNoLess, cX14_isNoLess, 9, (some .boolean))
theorem mw_X14_isNoLess__250_266 : rf_ms j_X14_isNoLess__250_266 4 := ⟨⟨rf_mem 72 (by decide +kernel), rf_mem 0 (by decide +kernel), rf_mem 72 (by decide +kernel)⟩, by decide +kernel, by decide⟩
def g_X14_isNoLess__250_266_3_b (w : rf_w) (rec3 : Int32 → Int32 → Int32 → rf_m → Option (Int32 × rf_m)) (a1 : Int32) (a3 : Int32) (a4 : Int32) (m : rf_m) : Option (Int32 × rf_m) := (if a4 < 0 then some (1, m) else rf_g (rf_in (a1 + a4) 6) (rf_vl ((Int32.toInt64 (m.1 250 (Int32.toNatClampNeg (a1 + a4)))) &&& 4294967295) fun x1 => rf_g (rf_in (a3 + a4) 6) (rf_vl ((Int32.toInt64 (m.1 266 (Int32.toNatClampNeg (a3 + a4)))) &&& 4294967295) fun x3 => (if (lg_cmp x1 x3) = 0 then rec3 a1 a3 (a4 + (-1)) m else (if (lg_cmp x1 x3) ≤ 0 then some (0, m) else some (1, m))))))
def g_X14_isNoLess__250_266_3 (w : rf_w) : Nat → Int32 → Int32 → Int32 → rf_m → Option (Int32 × rf_m)
  | 0, _, _, _, _ => none
  | n + 1, a1, a3, a4, m => g_X14_isNoLess__250_266_3_b w (g_X14_isNoLess__250_266_3 w n) a1 a3 a4 m
def g_X14_isNoLess__250_266 (w : rf_w) (m : rf_m) (a1 : Int32) (a3 : Int32) : Option (Int32 × rf_m) := g_X14_isNoLess__250_266_3 w rf_fuel a1 a3 5 m
theorem s_X14_isNoLess__250_266_3_b {w : rf_w} {K : rf_K} {r : Int32 × rf_m} (C : rf_Ctx 14 cX14_isNoLess 9 1 (rf_sh w) K) (hE : rf_End (some .boolean) K (rf_sh w) 0 0 (some (.int r.1)) (rf_MM w r.2)) {rec3 : Int32 → Int32 → Int32 → rf_m → Option (Int32 × rf_m)} (hr3 : ∀ (a1 : Int32) (a3 : Int32) (a4 : Int32) (m : rf_m), rec3 a1 a3 a4 m = some r → rf_V 9 (rf_sh w) K 0 0 3 ([(0, .ref 250), (1, .int a1), (2, .ref 266), (3, .int a3), (4, .int a4)], [], rf_MM w m)) (a1 : Int32) (a3 : Int32) (a4 : Int32) (m : rf_m) (hg : g_X14_isNoLess__250_266_3_b w rec3 a1 a3 a4 m = some r) : rf_V 9 (rf_sh w) K 0 0 3 ([(0, .ref 250), (1, .int a1), (2, .ref 266), (3, .int a3), (4, .int a4)], [], rf_MM w m) := by
  unfold g_X14_isNoLess__250_266_3_b at hg
  refine rf_seg C [(.iload 4, 2)] (pc' := 5) (S' := ([(0, .ref 250), (1, .int a1), (2, .ref 266), (3, .int a3), (4, .int a4)], [.int a4], rf_MM w m)) (by decide +kernel) rfl trivial ?_
  refine rf_if_lt C 57 62 (by decide +kernel) (fun hc => ?_) (fun hc => ?_)
  · replace hg := (if_pos hc).symm.trans hg
    refine rf_seg C [(.iconst 1, 1)] (pc' := 63) (S' := ([(0, .ref 250), (1, .int a1), (2, .ref 266), (3, .int a3), (4, .int a4)], [.int 1], rf_MM w m)) (by decide +kernel) rfl trivial ?_
    obtain rfl := Option.some.inj hg
    exact rf_zret C hE (by decide) (by decide +kernel)
  · replace hg := (if_neg hc).symm.trans hg
    obtain ⟨q0, hg⟩ := rf_g_some hg
    refine rf_seg C [(.aload 0, 1), (.iload 1, 1), (.iload 4, 2), (.iadd, 1), (.iaload, 1), (.i2l, 1), (.goto_w 4294967295, 3), (.land, 1)] (pc' := 19) (S' := ([(0, .ref 250), (1, .int a1), (2, .ref 266), (3, .int a3), (4, .int a4)], [.long ((Int32.toInt64 (m.1 250 (Int32.toNatClampNeg (a1 + a4)))) &&& 4294967295)], rf_MM w m)) (by decide +kernel) rfl (rf_in_of q0) ?_
    obtain ⟨x1, hx1, hg⟩ := rf_vl_some hg
    refine rf_vl_top hx1 ?_
    obtain ⟨q2, hg⟩ := rf_g_some hg
    refine rf_seg C [(.lstore 5, 2), (.aload 2, 1), (.iload 3, 1), (.iload 4, 2), (.iadd, 1), (.iaload, 1), (.i2l, 1), (.goto_w 4294967295, 3), (.land, 1)] (pc' := 32) (S' := ([(5, .long x1), (0, .ref 250), (1, .int a1), (2, .ref 266), (3, .int a3), (4, .int a4)], [.long ((Int32.toInt64 (m.1 266 (Int32.toNatClampNeg (a3 + a4)))) &&& 4294967295)], rf_MM w m)) (by decide +kernel) rfl (rf_in_of q2) ?_
    obtain ⟨x3, hx3, hg⟩ := rf_vl_some hg
    refine rf_vl_top hx3 ?_
    refine rf_seg C [(.lstore 7, 2), (.lload 5, 2), (.lload 7, 2), (.lcmp, 1)] (pc' := 39) (S' := ([(7, .long x3), (5, .long x1), (0, .ref 250), (1, .int a1), (2, .ref 266), (3, .int a3), (4, .int a4)], [.int (lg_cmp x1 x3)], rf_MM w m)) (by decide +kernel) rfl trivial ?_
    refine rf_if_eq C 17 56 (by decide +kernel) (fun hc => ?_) (fun hc => ?_)
    · replace hg := (if_pos hc).symm.trans hg
      refine rf_seg C [(.iinc 4 (-1), 3)] (pc' := 59) (S' := ([(4, .int (a4 + (-1))), (7, .long x3), (5, .long x1), (0, .ref 250), (1, .int a1), (2, .ref 266), (3, .int a3)], [], rf_MM w m)) (by decide +kernel) rfl trivial ?_
      refine rf_goto C (-56) 3 (by decide +kernel) ?_
      refine rf_few [3, 4, 5, 6, 0] rfl ?_
      exact hr3 a1 a3 (a4 + (-1)) m hg
    · replace hg := (if_neg hc).symm.trans hg
      refine rf_seg C [(.lload 5, 2), (.lload 7, 2), (.lcmp, 1)] (pc' := 47) (S' := ([(7, .long x3), (5, .long x1), (0, .ref 250), (1, .int a1), (2, .ref 266), (3, .int a3), (4, .int a4)], [.int (lg_cmp x1 x3)], rf_MM w m)) (by decide +kernel) rfl trivial ?_
      refine rf_if_le C 7 54 (by decide +kernel) (fun hc => ?_) (fun hc => ?_)
      · replace hg := (if_pos hc).symm.trans hg
        refine rf_seg C [(.iconst 0, 1)] (pc' := 55) (S' := ([(7, .long x3), (5, .long x1), (0, .ref 250), (1, .int a1), (2, .ref 266), (3, .int a3), (4, .int a4)], [.int 0], rf_MM w m)) (by decide +kernel) rfl trivial ?_
        obtain rfl := Option.some.inj hg
        exact rf_zret C hE (by decide) (by decide +kernel)
      · replace hg := (if_neg hc).symm.trans hg
        refine rf_seg C [(.iconst 1, 1)] (pc' := 51) (S' := ([(7, .long x3), (5, .long x1), (0, .ref 250), (1, .int a1), (2, .ref 266), (3, .int a3), (4, .int a4)], [.int 1], rf_MM w m)) (by decide +kernel) rfl trivial ?_
        refine rf_goto C 4 55 (by decide +kernel) ?_
        obtain rfl := Option.some.inj hg
        exact rf_zret C hE (by decide) (by decide +kernel)
theorem s_X14_isNoLess__250_266_3 {w : rf_w} {K : rf_K} {r : Int32 × rf_m} (C : rf_Ctx 14 cX14_isNoLess 9 1 (rf_sh w) K) (hE : rf_End (some .boolean) K (rf_sh w) 0 0 (some (.int r.1)) (rf_MM w r.2)) (n : Nat) : ∀ (a1 : Int32) (a3 : Int32) (a4 : Int32) (m : rf_m), g_X14_isNoLess__250_266_3 w n a1 a3 a4 m = some r → rf_V 9 (rf_sh w) K 0 0 3 ([(0, .ref 250), (1, .int a1), (2, .ref 266), (3, .int a3), (4, .int a4)], [], rf_MM w m) := by
  induction n with
  | zero => intro a1 a3 a4 m hg; cases hg
  | succ n ih => intro a1 a3 a4 m hg; exact s_X14_isNoLess__250_266_3_b C hE ih a1 a3 a4 m hg
theorem c_X14_isNoLess__250_266 {w : rf_w} {m : rf_m} {a1 : Int32} {a3 : Int32} {r : Int32 × rf_m} (hg : g_X14_isNoLess__250_266 w m a1 a3 = some r) : rf_Con j_X14_isNoLess__250_266 1 (rf_sh w) [.ref 250, .int a1, .ref 266, .int a3] (rf_MM w m) (some (.int r.1)) (rf_MM w r.2) := by
  refine rf_con j_X14_isNoLess__250_266 1 ⟨by decide +kernel, rfl, Nat.le_of_ble_eq_true rfl⟩ (fun K C hE => ?_)
  unfold g_X14_isNoLess__250_266 at hg
  show rf_V 9 (rf_sh w) K 0 0 0 ([(0, .ref 250), (1, .int a1), (2, .ref 266), (3, .int a3)], [], rf_MM w m)
  refine rf_seg C [(.iconst 5, 1), (.istore 4, 2)] (pc' := 3) (S' := ([(4, .int 5), (0, .ref 250), (1, .int a1), (2, .ref 266), (3, .int a3)], [], rf_MM w m)) (by decide +kernel) rfl trivial ?_
  refine rf_few [1, 2, 3, 4, 0] rfl ?_
  exact s_X14_isNoLess__250_266_3 C hE rf_fuel a1 a3 5 m hg
-- X14_copies__251_266
abbrev j_X14_copies__251_266 : rf_J := (14, yX14_copies, cX14_copies, 5, none)
theorem mw_X14_copies__251_266 : rf_ms j_X14_copies__251_266 4 := ⟨⟨rf_mem 71 (by decide +kernel), rf_mem 0 (by decide +kernel), rf_mem 71 (by decide +kernel)⟩, by decide +kernel, by decide⟩
def g_X14_copies__251_266_3_b (w : rf_w) (rec3 : Int32 → Int32 → Int32 → rf_m → Option (rf_m)) (a1 : Int32) (a3 : Int32) (a4 : Int32) (m : rf_m) : Option (rf_m) := (if 6 ≤ a4 then some m else rf_g (rf_in (a3 + a4) 6) (rf_g (rf_in (a1 + a4) 6) (rec3 a1 a3 (a4 + 1) (rf_i m 251 (Int32.toNatClampNeg (a1 + a4)) (m.1 266 (Int32.toNatClampNeg (a3 + a4)))))))
def g_X14_copies__251_266_3 (w : rf_w) : Nat → Int32 → Int32 → Int32 → rf_m → Option (rf_m)
  | 0, _, _, _, _ => none
  | n + 1, a1, a3, a4, m => g_X14_copies__251_266_3_b w (g_X14_copies__251_266_3 w n) a1 a3 a4 m
def g_X14_copies__251_266 (w : rf_w) (m : rf_m) (a1 : Int32) (a3 : Int32) : Option (rf_m) := g_X14_copies__251_266_3 w rf_fuel a1 a3 0 m
theorem s_X14_copies__251_266_3_b {w : rf_w} {K : rf_K} {r : rf_m} (C : rf_Ctx 14 cX14_copies 5 1 (rf_sh w) K) (hE : rf_End none K (rf_sh w) 0 0 none (rf_MM w r)) {rec3 : Int32 → Int32 → Int32 → rf_m → Option (rf_m)} (hr3 : ∀ (a1 : Int32) (a3 : Int32) (a4 : Int32) (m : rf_m), rec3 a1 a3 a4 m = some r → rf_V 5 (rf_sh w) K 0 0 3 ([(0, .ref 251), (1, .int a1), (2, .ref 266), (3, .int a3), (4, .int a4)], [], rf_MM w m)) (a1 : Int32) (a3 : Int32) (a4 : Int32) (m : rf_m) (hg : g_X14_copies__251_266_3_b w rec3 a1 a3 a4 m = some r) : rf_V 5 (rf_sh w) K 0 0 3 ([(0, .ref 251), (1, .int a1), (2, .ref 266), (3, .int a3), (4, .int a4)], [], rf_MM w m) := by
  unfold g_X14_copies__251_266_3_b at hg
  refine rf_seg C [(.iload 4, 2), (.iconst 6, 2)] (pc' := 7) (S' := ([(0, .ref 251), (1, .int a1), (2, .ref 266), (3, .int a3), (4, .int a4)], [.int 6, .int a4], rf_MM w m)) (by decide +kernel) rfl trivial ?_
  refine rf_icmp_ge C 21 28 (by decide +kernel) (fun hc => ?_) (fun hc => ?_)
  · replace hg := (if_pos hc).symm.trans hg
    obtain rfl := Option.some.inj hg
    exact rf_vret C hE (by decide +kernel)
  · replace hg := (if_neg hc).symm.trans hg
    obtain ⟨q0, hg⟩ := rf_g_some hg
    obtain ⟨q1, hg⟩ := rf_g_some hg
    refine rf_seg C [(.aload 0, 1), (.iload 1, 1), (.iload 4, 2), (.iadd, 1), (.aload 2, 1), (.iload 3, 1), (.iload 4, 2), (.iadd, 1), (.iaload, 1), (.iastore, 1), (.iinc 4 1, 3)] (pc' := 25) (S' := ([(4, .int (a4 + 1)), (0, .ref 251), (1, .int a1), (2, .ref 266), (3, .int a3)], [], rf_MM w (rf_i m 251 (Int32.toNatClampNeg (a1 + a4)) (m.1 266 (Int32.toNatClampNeg (a3 + a4)))))) (by decide +kernel) rfl (by exact ⟨(rf_in_of q0), (rf_in_of q1)⟩) ?_
    refine rf_goto C (-22) 3 (by decide +kernel) ?_
    refine rf_few [1, 2, 3, 4, 0] rfl ?_
    exact hr3 a1 a3 (a4 + 1) (rf_i m 251 (Int32.toNatClampNeg (a1 + a4)) (m.1 266 (Int32.toNatClampNeg (a3 + a4)))) hg
theorem s_X14_copies__251_266_3 {w : rf_w} {K : rf_K} {r : rf_m} (C : rf_Ctx 14 cX14_copies 5 1 (rf_sh w) K) (hE : rf_End none K (rf_sh w) 0 0 none (rf_MM w r)) (n : Nat) : ∀ (a1 : Int32) (a3 : Int32) (a4 : Int32) (m : rf_m), g_X14_copies__251_266_3 w n a1 a3 a4 m = some r → rf_V 5 (rf_sh w) K 0 0 3 ([(0, .ref 251), (1, .int a1), (2, .ref 266), (3, .int a3), (4, .int a4)], [], rf_MM w m) := by
  induction n with
  | zero => intro a1 a3 a4 m hg; cases hg
  | succ n ih => intro a1 a3 a4 m hg; exact s_X14_copies__251_266_3_b C hE ih a1 a3 a4 m hg
theorem c_X14_copies__251_266 {w : rf_w} {m : rf_m} {a1 : Int32} {a3 : Int32} {r : rf_m} (hg : g_X14_copies__251_266 w m a1 a3 = some r) : rf_Con j_X14_copies__251_266 1 (rf_sh w) [.ref 251, .int a1, .ref 266, .int a3] (rf_MM w m) none (rf_MM w r) := by
  refine rf_con j_X14_copies__251_266 1 ⟨by decide +kernel, rfl, Nat.le_of_ble_eq_true rfl⟩ (fun K C hE => ?_)
  unfold g_X14_copies__251_266 at hg
  show rf_V 5 (rf_sh w) K 0 0 0 ([(0, .ref 251), (1, .int a1), (2, .ref 266), (3, .int a3)], [], rf_MM w m)
  refine rf_seg C [(.iconst 0, 1), (.istore 4, 2)] (pc' := 3) (S' := ([(4, .int 0), (0, .ref 251), (1, .int a1), (2, .ref 266), (3, .int a3)], [], rf_MM w m)) (by decide +kernel) rfl trivial ?_
  refine rf_few [1, 2, 3, 4, 0] rfl ?_
  exact s_X14_copies__251_266_3 C hE rf_fuel a1 a3 0 m hg
-- X14_divides__267_266
abbrev j_X14_divides__267_266 : rf_J := (14, yX14_divides, cX14_divides, 6, none)
theorem mw_X14_divides__267_266 : rf_mv j_X14_divides__267_266 (rf_R 14) 4 := ⟨⟨rf_mem 72 (by decide +kernel), rf_mem 72 (by decide +kernel), rf_mem 0 (by decide +kernel), rf_mem 72 (by decide +kernel)⟩, by decide +kernel, by decide⟩
def g_X14_divides__267_266_139 (w : rf_w) (rec42 : Int32 → Int32 → Int32 → rf_m → Option (rf_m)) (a2 : Int32) (a4 : Int32) (a5 : Int32) (m : rf_m) : Option (rf_m) := rec42 a2 a4 (a5 + (-1)) m
def g_X14_divides__267_266_42_b (w : rf_w) (rec42 : Int32 → Int32 → Int32 → rf_m → Option (rf_m)) (a2 : Int32) (a4 : Int32) (a5 : Int32) (m : rf_m) : Option (rf_m) := (if a5 < 0 then some m else rf_bv (g_X14_adds__250_250 w m 0 0) fun m0 => rf_g (rf_in (a2 + (a5 / 32)) 6) (rf_bv (g_X14_adds__249_249 w (rf_i m0 250 (Int32.toNatClampNeg 0) ((m0.1 250 (Int32.toNatClampNeg 0)) ||| (((Int32.toUInt32 (m0.1 267 (Int32.toNatClampNeg (a2 + (a5 / 32)))) >>> (Int32.toUInt32 (a5 - a5 / 32 * 32) &&& Int32.toUInt32 31)).toInt32) &&& 1))) 0 0) fun m2 => rf_b (g_X14_isNoLess__250_266 w m2 0 a4) fun y3 m3 => (if y3 = 0 then g_X14_divides__267_266_139 w rec42 a2 a4 a5 m3 else rf_bv (g_X14_adds__250_251 w m3 0 0) fun m4 => g_X14_divides__267_266_139 w rec42 a2 a4 a5 (rf_i m4 249 (Int32.toNatClampNeg 0) ((m4.1 249 (Int32.toNatClampNeg 0)) ||| 1)))))
def g_X14_divides__267_266_42 (w : rf_w) : Nat → Int32 → Int32 → Int32 → rf_m → Option (rf_m)
  | 0, _, _, _, _ => none
  | n + 1, a2, a4, a5, m => g_X14_divides__267_266_42_b w (g_X14_divides__267_266_42 w n) a2 a4 a5 m
def g_X14_divides__267_266 (w : rf_w) (m : rf_m) (a2 : Int32) (a4 : Int32) : Option (rf_m) := rf_bv (g_X14_set__249 w m 0 0) fun m0 => rf_bv (g_X14_set__250 w m0 0 0) fun m1 => rf_bv (g_X14_copies__251_266 w m1 0 a4) fun m2 => rf_bv (g_X14_turns__251 w m2 0) fun m3 => g_X14_divides__267_266_42 w rf_fuel a2 a4 191 m3
theorem s_X14_divides__267_266_139 {w : rf_w} {K : rf_K} {r : rf_m} (C : rf_Ctx 14 cX14_divides 6 2 (rf_sh w) K) (hE : rf_End none K (rf_sh w) 0 0 none (rf_MM w r)) {rec42 : Int32 → Int32 → Int32 → rf_m → Option (rf_m)} (hr42 : ∀ (a2 : Int32) (a4 : Int32) (a5 : Int32) (m : rf_m), rec42 a2 a4 a5 m = some r → rf_V 6 (rf_sh w) K 0 0 42 ([(0, .ref 206), (1, .ref 267), (2, .int a2), (3, .ref 266), (4, .int a4), (5, .int a5)], [], rf_MM w m)) (a2 : Int32) (a4 : Int32) (a5 : Int32) (m : rf_m) (hg : g_X14_divides__267_266_139 w rec42 a2 a4 a5 m = some r) : rf_V 6 (rf_sh w) K 0 0 139 ([(0, .ref 206), (1, .ref 267), (2, .int a2), (3, .ref 266), (4, .int a4), (5, .int a5)], [], rf_MM w m) := by
  unfold g_X14_divides__267_266_139 at hg
  refine rf_seg C [(.iinc 5 (-1), 3)] (pc' := 142) (S' := ([(5, .int (a5 + (-1))), (0, .ref 206), (1, .ref 267), (2, .int a2), (3, .ref 266), (4, .int a4)], [], rf_MM w m)) (by decide +kernel) rfl trivial ?_
  refine rf_goto C (-100) 42 (by decide +kernel) ?_
  refine rf_few [1, 2, 3, 4, 5, 0] rfl ?_
  exact hr42 a2 a4 (a5 + (-1)) m hg
theorem s_X14_divides__267_266_42_b {w : rf_w} {K : rf_K} {r : rf_m} (C : rf_Ctx 14 cX14_divides 6 2 (rf_sh w) K) (hE : rf_End none K (rf_sh w) 0 0 none (rf_MM w r)) {rec42 : Int32 → Int32 → Int32 → rf_m → Option (rf_m)} (hr42 : ∀ (a2 : Int32) (a4 : Int32) (a5 : Int32) (m : rf_m), rec42 a2 a4 a5 m = some r → rf_V 6 (rf_sh w) K 0 0 42 ([(0, .ref 206), (1, .ref 267), (2, .int a2), (3, .ref 266), (4, .int a4), (5, .int a5)], [], rf_MM w m)) (a2 : Int32) (a4 : Int32) (a5 : Int32) (m : rf_m) (hg : g_X14_divides__267_266_42_b w rec42 a2 a4 a5 m = some r) : rf_V 6 (rf_sh w) K 0 0 42 ([(0, .ref 206), (1, .ref 267), (2, .int a2), (3, .ref 266), (4, .int a4), (5, .int a5)], [], rf_MM w m) := by
  unfold g_X14_divides__267_266_42_b at hg
  refine rf_seg C [(.iload 5, 2)] (pc' := 44) (S' := ([(0, .ref 206), (1, .ref 267), (2, .int a2), (3, .ref 266), (4, .int a4), (5, .int a5)], [.int a5], rf_MM w m)) (by decide +kernel) rfl trivial ?_
  refine rf_if_lt C 101 145 (by decide +kernel) (fun hc => ?_) (fun hc => ?_)
  · replace hg := (if_pos hc).symm.trans hg
    obtain rfl := Option.some.inj hg
    exact rf_vret C hE (by decide +kernel)
  · replace hg := (if_neg hc).symm.trans hg
    refine rf_seg C [(.aload 0, 1), (.invokeinterface 14 73, 3), (.iconst 0, 1), (.aload 0, 1), (.invokeinterface 14 73, 3), (.iconst 0, 1)] (pc' := 57) (S' := ([(0, .ref 206), (1, .ref 267), (2, .int a2), (3, .ref 266), (4, .int a4), (5, .int a5)], [.int 0, .ref 250, .int 0, .ref 250], rf_MM w m)) (by decide +kernel) rfl trivial ?_
    obtain ⟨m0, hc0, hg⟩ := rf_bv_some hg
    refine rf_calls C rf_fit0 j_X14_adds__250_250 (As := [.ref 250, .int 0, .ref 250, .int 0]) (rest := []) mw_X14_adds__250_250 (c_X14_adds__250_250 hc0) (by decide) lk_14_748 rfl rfl (Nat.le_of_ble_eq_true rfl) (by decide +kernel) ?_
    show rf_V 6 (rf_sh w) K 0 0 60 ([(0, .ref 206), (1, .ref 267), (2, .int a2), (3, .ref 266), (4, .int a4), (5, .int a5)], [], rf_MM w m0)
    obtain ⟨q1, hg⟩ := rf_g_some hg
    refine rf_seg C [(.aload 0, 1), (.invokeinterface 14 73, 3), (.iconst 0, 1), (.dup2, 1), (.iaload, 1), (.aload 1, 1), (.iload 2, 1), (.iload 5, 2), (.iconst 32, 2), (.idiv, 1), (.iadd, 1), (.iaload, 1), (.iload 5, 2), (.iconst 32, 2), (.irem, 1), (.iushr, 1), (.iconst 1, 1), (.iand, 1), (.ior, 1), (.iastore, 1), (.aload 0, 1), (.invokeinterface 14 72, 3), (.iconst 0, 1), (.aload 0, 1), (.invokeinterface 14 72, 3), (.iconst 0, 1)] (pc' := 96) (S' := ([(0, .ref 206), (1, .ref 267), (2, .int a2), (3, .ref 266), (4, .int a4), (5, .int a5)], [.int 0, .ref 249, .int 0, .ref 249], rf_MM w (rf_i m0 250 (Int32.toNatClampNeg 0) ((m0.1 250 (Int32.toNatClampNeg 0)) ||| (((Int32.toUInt32 (m0.1 267 (Int32.toNatClampNeg (a2 + (a5 / 32)))) >>> (Int32.toUInt32 (a5 - a5 / 32 * 32) &&& Int32.toUInt32 31)).toInt32) &&& 1))))) (by decide +kernel) rfl (by exact ⟨(rf_in_of (by decide)), (rf_nz_of (by decide)), (rf_in_of q1), (rf_nz_of (by decide)), (rf_in_of (by decide))⟩) ?_
    obtain ⟨m2, hc2, hg⟩ := rf_bv_some hg
    refine rf_calls C rf_fit0 j_X14_adds__249_249 (As := [.ref 249, .int 0, .ref 249, .int 0]) (rest := []) mw_X14_adds__249_249 (c_X14_adds__249_249 hc2) (by decide) lk_14_748 rfl rfl (Nat.le_of_ble_eq_true rfl) (by decide +kernel) ?_
    show rf_V 6 (rf_sh w) K 0 0 99 ([(0, .ref 206), (1, .ref 267), (2, .int a2), (3, .ref 266), (4, .int a4), (5, .int a5)], [], rf_MM w m2)
    refine rf_seg C [(.aload 0, 1), (.invokeinterface 14 73, 3), (.iconst 0, 1), (.aload 3, 1), (.iload 4, 2)] (pc' := 107) (S' := ([(0, .ref 206), (1, .ref 267), (2, .int a2), (3, .ref 266), (4, .int a4), (5, .int a5)], [.int a4, .ref 266, .int 0, .ref 250], rf_MM w m2)) (by decide +kernel) rfl trivial ?_
    obtain ⟨y3, m3, hc3, hg⟩ := rf_b_some hg
    refine rf_calls C rf_fit0 j_X14_isNoLess__250_266 (As := [.ref 250, .int 0, .ref 266, .int a4]) (rest := []) mw_X14_isNoLess__250_266 (c_X14_isNoLess__250_266 hc3) (by decide) lk_14_751 rfl rfl (Nat.le_of_ble_eq_true rfl) (by decide +kernel) ?_
    show rf_V 6 (rf_sh w) K 0 0 110 ([(0, .ref 206), (1, .ref 267), (2, .int a2), (3, .ref 266), (4, .int a4), (5, .int a5)], [.int y3], rf_MM w m3)
    refine rf_if_ne C 6 116 (by decide +kernel) (fun hc => ?_) (fun hc => ?_)
    · replace hg := (if_neg hc).symm.trans hg
      refine rf_seg C [(.aload 0, 1), (.invokeinterface 14 73, 3), (.iconst 0, 1), (.aload 0, 1), (.invokeinterface 14 74, 3), (.iconst 0, 1)] (pc' := 126) (S' := ([(0, .ref 206), (1, .ref 267), (2, .int a2), (3, .ref 266), (4, .int a4), (5, .int a5)], [.int 0, .ref 251, .int 0, .ref 250], rf_MM w m3)) (by decide +kernel) rfl trivial ?_
      obtain ⟨m4, hc4, hg⟩ := rf_bv_some hg
      refine rf_calls C rf_fit0 j_X14_adds__250_251 (As := [.ref 250, .int 0, .ref 251, .int 0]) (rest := []) mw_X14_adds__250_251 (c_X14_adds__250_251 hc4) (by decide) lk_14_748 rfl rfl (Nat.le_of_ble_eq_true rfl) (by decide +kernel) ?_
      show rf_V 6 (rf_sh w) K 0 0 129 ([(0, .ref 206), (1, .ref 267), (2, .int a2), (3, .ref 266), (4, .int a4), (5, .int a5)], [], rf_MM w m4)
      refine rf_seg C [(.aload 0, 1), (.invokeinterface 14 72, 3), (.iconst 0, 1), (.dup2, 1), (.iaload, 1), (.iconst 1, 1), (.ior, 1), (.iastore, 1)] (pc' := 139) (S' := ([(0, .ref 206), (1, .ref 267), (2, .int a2), (3, .ref 266), (4, .int a4), (5, .int a5)], [], rf_MM w (rf_i m4 249 (Int32.toNatClampNeg 0) ((m4.1 249 (Int32.toNatClampNeg 0)) ||| 1)))) (by decide +kernel) rfl (by exact ⟨(rf_in_of (by decide)), (rf_in_of (by decide))⟩) ?_
      refine rf_few [0, 1, 2, 3, 4, 5] rfl ?_
      exact s_X14_divides__267_266_139 C hE hr42 a2 a4 a5 (rf_i m4 249 (Int32.toNatClampNeg 0) ((m4.1 249 (Int32.toNatClampNeg 0)) ||| 1)) hg
    · replace hg := (if_pos hc).symm.trans hg
      refine rf_goto C 26 139 (by decide +kernel) ?_
      refine rf_few [0, 1, 2, 3, 4, 5] rfl ?_
      exact s_X14_divides__267_266_139 C hE hr42 a2 a4 a5 m3 hg
theorem s_X14_divides__267_266_42 {w : rf_w} {K : rf_K} {r : rf_m} (C : rf_Ctx 14 cX14_divides 6 2 (rf_sh w) K) (hE : rf_End none K (rf_sh w) 0 0 none (rf_MM w r)) (n : Nat) : ∀ (a2 : Int32) (a4 : Int32) (a5 : Int32) (m : rf_m), g_X14_divides__267_266_42 w n a2 a4 a5 m = some r → rf_V 6 (rf_sh w) K 0 0 42 ([(0, .ref 206), (1, .ref 267), (2, .int a2), (3, .ref 266), (4, .int a4), (5, .int a5)], [], rf_MM w m) := by
  induction n with
  | zero => intro a2 a4 a5 m hg; cases hg
  | succ n ih => intro a2 a4 a5 m hg; exact s_X14_divides__267_266_42_b C hE ih a2 a4 a5 m hg
theorem c_X14_divides__267_266 {w : rf_w} {m : rf_m} {a2 : Int32} {a4 : Int32} {r : rf_m} (hg : g_X14_divides__267_266 w m a2 a4 = some r) : rf_Con j_X14_divides__267_266 2 (rf_sh w) [.ref 206, .ref 267, .int a2, .ref 266, .int a4] (rf_MM w m) none (rf_MM w r) := by
  refine rf_con j_X14_divides__267_266 2 ⟨by decide +kernel, rfl, Nat.le_of_ble_eq_true rfl⟩ (fun K C hE => ?_)
  unfold g_X14_divides__267_266 at hg
  show rf_V 6 (rf_sh w) K 0 0 0 ([(0, .ref 206), (1, .ref 267), (2, .int a2), (3, .ref 266), (4, .int a4)], [], rf_MM w m)
  refine rf_seg C [(.aload 0, 1), (.invokeinterface 14 72, 3), (.iconst 0, 1), (.goto_w 0, 1)] (pc' := 6) (S' := ([(0, .ref 206), (1, .ref 267), (2, .int a2), (3, .ref 266), (4, .int a4)], [.long 0, .int 0, .ref 249], rf_MM w m)) (by decide +kernel) rfl trivial ?_
  obtain ⟨m0, hc0, hg⟩ := rf_bv_some hg
  refine rf_calls C rf_fit0 j_X14_set__249 (As := [.ref 249, .int 0, .long 0]) (rest := []) mw_X14_set__249 (c_X14_set__249 hc0) (by decide) lk_14_740 rfl rfl (Nat.le_of_ble_eq_true rfl) (by decide +kernel) ?_
  show rf_V 6 (rf_sh w) K 0 0 9 ([(0, .ref 206), (1, .ref 267), (2, .int a2), (3, .ref 266), (4, .int a4)], [], rf_MM w m0)
  refine rf_seg C [(.aload 0, 1), (.invokeinterface 14 73, 3), (.iconst 0, 1), (.goto_w 0, 1)] (pc' := 15) (S' := ([(0, .ref 206), (1, .ref 267), (2, .int a2), (3, .ref 266), (4, .int a4)], [.long 0, .int 0, .ref 250], rf_MM w m0)) (by decide +kernel) rfl trivial ?_
  obtain ⟨m1, hc1, hg⟩ := rf_bv_some hg
  refine rf_calls C rf_fit0 j_X14_set__250 (As := [.ref 250, .int 0, .long 0]) (rest := []) mw_X14_set__250 (c_X14_set__250 hc1) (by decide) lk_14_740 rfl rfl (Nat.le_of_ble_eq_true rfl) (by decide +kernel) ?_
  show rf_V 6 (rf_sh w) K 0 0 18 ([(0, .ref 206), (1, .ref 267), (2, .int a2), (3, .ref 266), (4, .int a4)], [], rf_MM w m1)
  refine rf_seg C [(.aload 0, 1), (.invokeinterface 14 74, 3), (.iconst 0, 1), (.aload 3, 1), (.iload 4, 2)] (pc' := 26) (S' := ([(0, .ref 206), (1, .ref 267), (2, .int a2), (3, .ref 266), (4, .int a4)], [.int a4, .ref 266, .int 0, .ref 251], rf_MM w m1)) (by decide +kernel) rfl trivial ?_
  obtain ⟨m2, hc2, hg⟩ := rf_bv_some hg
  refine rf_calls C rf_fit0 j_X14_copies__251_266 (As := [.ref 251, .int 0, .ref 266, .int a4]) (rest := []) mw_X14_copies__251_266 (c_X14_copies__251_266 hc2) (by decide) lk_14_744 rfl rfl (Nat.le_of_ble_eq_true rfl) (by decide +kernel) ?_
  show rf_V 6 (rf_sh w) K 0 0 29 ([(0, .ref 206), (1, .ref 267), (2, .int a2), (3, .ref 266), (4, .int a4)], [], rf_MM w m2)
  refine rf_seg C [(.aload 0, 1), (.invokeinterface 14 74, 3), (.iconst 0, 1)] (pc' := 34) (S' := ([(0, .ref 206), (1, .ref 267), (2, .int a2), (3, .ref 266), (4, .int a4)], [.int 0, .ref 251], rf_MM w m2)) (by decide +kernel) rfl trivial ?_
  obtain ⟨m3, hc3, hg⟩ := rf_bv_some hg
  refine rf_calls C rf_fit0 j_X14_turns__251 (As := [.ref 251, .int 0]) (rest := []) mw_X14_turns__251 (c_X14_turns__251 hc3) (by decide) lk_14_736 rfl rfl (Nat.le_of_ble_eq_true rfl) (by decide +kernel) ?_
  show rf_V 6 (rf_sh w) K 0 0 37 ([(0, .ref 206), (1, .ref 267), (2, .int a2), (3, .ref 266), (4, .int a4)], [], rf_MM w m3)
  refine rf_seg C [(.iconst 191, 3), (.istore 5, 2)] (pc' := 42) (S' := ([(5, .int 191), (0, .ref 206), (1, .ref 267), (2, .int a2), (3, .ref 266), (4, .int a4)], [], rf_MM w m3)) (by decide +kernel) rfl trivial ?_
  refine rf_few [1, 2, 3, 4, 5, 0] rfl ?_
  exact s_X14_divides__267_266_42 C hE rf_fuel a2 a4 191 m3 hg
-- X14_copies__267_266
abbrev j_X14_copies__267_266 : rf_J := (14, yX14_copies, cX14_copies, 5, none)
theorem mw_X14_copies__267_266 : rf_ms j_X14_copies__267_266 4 := ⟨⟨rf_mem 71 (by decide +kernel), rf_mem 0 (by decide +kernel), rf_mem 71 (by decide +kernel)⟩, by decide +kernel, by decide⟩
def g_X14_copies__267_266_3_b (w : rf_w) (rec3 : Int32 → Int32 → Int32 → rf_m → Option (rf_m)) (a1 : Int32) (a3 : Int32) (a4 : Int32) (m : rf_m) : Option (rf_m) := (if 6 ≤ a4 then some m else rf_g (rf_in (a3 + a4) 6) (rf_g (rf_in (a1 + a4) 6) (rec3 a1 a3 (a4 + 1) (rf_i m 267 (Int32.toNatClampNeg (a1 + a4)) (m.1 266 (Int32.toNatClampNeg (a3 + a4)))))))
def g_X14_copies__267_266_3 (w : rf_w) : Nat → Int32 → Int32 → Int32 → rf_m → Option (rf_m)
  | 0, _, _, _, _ => none
  | n + 1, a1, a3, a4, m => g_X14_copies__267_266_3_b w (g_X14_copies__267_266_3 w n) a1 a3 a4 m
def g_X14_copies__267_266 (w : rf_w) (m : rf_m) (a1 : Int32) (a3 : Int32) : Option (rf_m) := g_X14_copies__267_266_3 w rf_fuel a1 a3 0 m
theorem s_X14_copies__267_266_3_b {w : rf_w} {K : rf_K} {r : rf_m} (C : rf_Ctx 14 cX14_copies 5 1 (rf_sh w) K) (hE : rf_End none K (rf_sh w) 0 0 none (rf_MM w r)) {rec3 : Int32 → Int32 → Int32 → rf_m → Option (rf_m)} (hr3 : ∀ (a1 : Int32) (a3 : Int32) (a4 : Int32) (m : rf_m), rec3 a1 a3 a4 m = some r → rf_V 5 (rf_sh w) K 0 0 3 ([(0, .ref 267), (1, .int a1), (2, .ref 266), (3, .int a3), (4, .int a4)], [], rf_MM w m)) (a1 : Int32) (a3 : Int32) (a4 : Int32) (m : rf_m) (hg : g_X14_copies__267_266_3_b w rec3 a1 a3 a4 m = some r) : rf_V 5 (rf_sh w) K 0 0 3 ([(0, .ref 267), (1, .int a1), (2, .ref 266), (3, .int a3), (4, .int a4)], [], rf_MM w m) := by
  unfold g_X14_copies__267_266_3_b at hg
  refine rf_seg C [(.iload 4, 2), (.iconst 6, 2)] (pc' := 7) (S' := ([(0, .ref 267), (1, .int a1), (2, .ref 266), (3, .int a3), (4, .int a4)], [.int 6, .int a4], rf_MM w m)) (by decide +kernel) rfl trivial ?_
  refine rf_icmp_ge C 21 28 (by decide +kernel) (fun hc => ?_) (fun hc => ?_)
  · replace hg := (if_pos hc).symm.trans hg
    obtain rfl := Option.some.inj hg
    exact rf_vret C hE (by decide +kernel)
  · replace hg := (if_neg hc).symm.trans hg
    obtain ⟨q0, hg⟩ := rf_g_some hg
    obtain ⟨q1, hg⟩ := rf_g_some hg
    refine rf_seg C [(.aload 0, 1), (.iload 1, 1), (.iload 4, 2), (.iadd, 1), (.aload 2, 1), (.iload 3, 1), (.iload 4, 2), (.iadd, 1), (.iaload, 1), (.iastore, 1), (.iinc 4 1, 3)] (pc' := 25) (S' := ([(4, .int (a4 + 1)), (0, .ref 267), (1, .int a1), (2, .ref 266), (3, .int a3)], [], rf_MM w (rf_i m 267 (Int32.toNatClampNeg (a1 + a4)) (m.1 266 (Int32.toNatClampNeg (a3 + a4)))))) (by decide +kernel) rfl (by exact ⟨(rf_in_of q0), (rf_in_of q1)⟩) ?_
    refine rf_goto C (-22) 3 (by decide +kernel) ?_
    refine rf_few [1, 2, 3, 4, 0] rfl ?_
    exact hr3 a1 a3 (a4 + 1) (rf_i m 267 (Int32.toNatClampNeg (a1 + a4)) (m.1 266 (Int32.toNatClampNeg (a3 + a4)))) hg
theorem s_X14_copies__267_266_3 {w : rf_w} {K : rf_K} {r : rf_m} (C : rf_Ctx 14 cX14_copies 5 1 (rf_sh w) K) (hE : rf_End none K (rf_sh w) 0 0 none (rf_MM w r)) (n : Nat) : ∀ (a1 : Int32) (a3 : Int32) (a4 : Int32) (m : rf_m), g_X14_copies__267_266_3 w n a1 a3 a4 m = some r → rf_V 5 (rf_sh w) K 0 0 3 ([(0, .ref 267), (1, .int a1), (2, .ref 266), (3, .int a3), (4, .int a4)], [], rf_MM w m) := by
  induction n with
  | zero => intro a1 a3 a4 m hg; cases hg
  | succ n ih => intro a1 a3 a4 m hg; exact s_X14_copies__267_266_3_b C hE ih a1 a3 a4 m hg
theorem c_X14_copies__267_266 {w : rf_w} {m : rf_m} {a1 : Int32} {a3 : Int32} {r : rf_m} (hg : g_X14_copies__267_266 w m a1 a3 = some r) : rf_Con j_X14_copies__267_266 1 (rf_sh w) [.ref 267, .int a1, .ref 266, .int a3] (rf_MM w m) none (rf_MM w r) := by
  refine rf_con j_X14_copies__267_266 1 ⟨by decide +kernel, rfl, Nat.le_of_ble_eq_true rfl⟩ (fun K C hE => ?_)
  unfold g_X14_copies__267_266 at hg
  show rf_V 5 (rf_sh w) K 0 0 0 ([(0, .ref 267), (1, .int a1), (2, .ref 266), (3, .int a3)], [], rf_MM w m)
  refine rf_seg C [(.iconst 0, 1), (.istore 4, 2)] (pc' := 3) (S' := ([(4, .int 0), (0, .ref 267), (1, .int a1), (2, .ref 266), (3, .int a3)], [], rf_MM w m)) (by decide +kernel) rfl trivial ?_
  refine rf_few [1, 2, 3, 4, 0] rfl ?_
  exact s_X14_copies__267_266_3 C hE rf_fuel a1 a3 0 m hg
-- X14_copies__266_250
abbrev j_X14_copies__266_250 : rf_J := (14, yX14_copies, cX14_copies, 5, none)
theorem mw_X14_copies__266_250 : rf_ms j_X14_copies__266_250 4 := ⟨⟨rf_mem 71 (by decide +kernel), rf_mem 0 (by decide +kernel), rf_mem 71 (by decide +kernel)⟩, by decide +kernel, by decide⟩
def g_X14_copies__266_250_3_b (w : rf_w) (rec3 : Int32 → Int32 → Int32 → rf_m → Option (rf_m)) (a1 : Int32) (a3 : Int32) (a4 : Int32) (m : rf_m) : Option (rf_m) := (if 6 ≤ a4 then some m else rf_g (rf_in (a3 + a4) 6) (rf_g (rf_in (a1 + a4) 6) (rec3 a1 a3 (a4 + 1) (rf_i m 266 (Int32.toNatClampNeg (a1 + a4)) (m.1 250 (Int32.toNatClampNeg (a3 + a4)))))))
def g_X14_copies__266_250_3 (w : rf_w) : Nat → Int32 → Int32 → Int32 → rf_m → Option (rf_m)
  | 0, _, _, _, _ => none
  | n + 1, a1, a3, a4, m => g_X14_copies__266_250_3_b w (g_X14_copies__266_250_3 w n) a1 a3 a4 m
def g_X14_copies__266_250 (w : rf_w) (m : rf_m) (a1 : Int32) (a3 : Int32) : Option (rf_m) := g_X14_copies__266_250_3 w rf_fuel a1 a3 0 m
theorem s_X14_copies__266_250_3_b {w : rf_w} {K : rf_K} {r : rf_m} (C : rf_Ctx 14 cX14_copies 5 1 (rf_sh w) K) (hE : rf_End none K (rf_sh w) 0 0 none (rf_MM w r)) {rec3 : Int32 → Int32 → Int32 → rf_m → Option (rf_m)} (hr3 : ∀ (a1 : Int32) (a3 : Int32) (a4 : Int32) (m : rf_m), rec3 a1 a3 a4 m = some r → rf_V 5 (rf_sh w) K 0 0 3 ([(0, .ref 266), (1, .int a1), (2, .ref 250), (3, .int a3), (4, .int a4)], [], rf_MM w m)) (a1 : Int32) (a3 : Int32) (a4 : Int32) (m : rf_m) (hg : g_X14_copies__266_250_3_b w rec3 a1 a3 a4 m = some r) : rf_V 5 (rf_sh w) K 0 0 3 ([(0, .ref 266), (1, .int a1), (2, .ref 250), (3, .int a3), (4, .int a4)], [], rf_MM w m) := by
  unfold g_X14_copies__266_250_3_b at hg
  refine rf_seg C [(.iload 4, 2), (.iconst 6, 2)] (pc' := 7) (S' := ([(0, .ref 266), (1, .int a1), (2, .ref 250), (3, .int a3), (4, .int a4)], [.int 6, .int a4], rf_MM w m)) (by decide +kernel) rfl trivial ?_
  refine rf_icmp_ge C 21 28 (by decide +kernel) (fun hc => ?_) (fun hc => ?_)
  · replace hg := (if_pos hc).symm.trans hg
    obtain rfl := Option.some.inj hg
    exact rf_vret C hE (by decide +kernel)
  · replace hg := (if_neg hc).symm.trans hg
    obtain ⟨q0, hg⟩ := rf_g_some hg
    obtain ⟨q1, hg⟩ := rf_g_some hg
    refine rf_seg C [(.aload 0, 1), (.iload 1, 1), (.iload 4, 2), (.iadd, 1), (.aload 2, 1), (.iload 3, 1), (.iload 4, 2), (.iadd, 1), (.iaload, 1), (.iastore, 1), (.iinc 4 1, 3)] (pc' := 25) (S' := ([(4, .int (a4 + 1)), (0, .ref 266), (1, .int a1), (2, .ref 250), (3, .int a3)], [], rf_MM w (rf_i m 266 (Int32.toNatClampNeg (a1 + a4)) (m.1 250 (Int32.toNatClampNeg (a3 + a4)))))) (by decide +kernel) rfl (by exact ⟨(rf_in_of q0), (rf_in_of q1)⟩) ?_
    refine rf_goto C (-22) 3 (by decide +kernel) ?_
    refine rf_few [1, 2, 3, 4, 0] rfl ?_
    exact hr3 a1 a3 (a4 + 1) (rf_i m 266 (Int32.toNatClampNeg (a1 + a4)) (m.1 250 (Int32.toNatClampNeg (a3 + a4)))) hg
theorem s_X14_copies__266_250_3 {w : rf_w} {K : rf_K} {r : rf_m} (C : rf_Ctx 14 cX14_copies 5 1 (rf_sh w) K) (hE : rf_End none K (rf_sh w) 0 0 none (rf_MM w r)) (n : Nat) : ∀ (a1 : Int32) (a3 : Int32) (a4 : Int32) (m : rf_m), g_X14_copies__266_250_3 w n a1 a3 a4 m = some r → rf_V 5 (rf_sh w) K 0 0 3 ([(0, .ref 266), (1, .int a1), (2, .ref 250), (3, .int a3), (4, .int a4)], [], rf_MM w m) := by
  induction n with
  | zero => intro a1 a3 a4 m hg; cases hg
  | succ n ih => intro a1 a3 a4 m hg; exact s_X14_copies__266_250_3_b C hE ih a1 a3 a4 m hg
theorem c_X14_copies__266_250 {w : rf_w} {m : rf_m} {a1 : Int32} {a3 : Int32} {r : rf_m} (hg : g_X14_copies__266_250 w m a1 a3 = some r) : rf_Con j_X14_copies__266_250 1 (rf_sh w) [.ref 266, .int a1, .ref 250, .int a3] (rf_MM w m) none (rf_MM w r) := by
  refine rf_con j_X14_copies__266_250 1 ⟨by decide +kernel, rfl, Nat.le_of_ble_eq_true rfl⟩ (fun K C hE => ?_)
  unfold g_X14_copies__266_250 at hg
  show rf_V 5 (rf_sh w) K 0 0 0 ([(0, .ref 266), (1, .int a1), (2, .ref 250), (3, .int a3)], [], rf_MM w m)
  refine rf_seg C [(.iconst 0, 1), (.istore 4, 2)] (pc' := 3) (S' := ([(4, .int 0), (0, .ref 266), (1, .int a1), (2, .ref 250), (3, .int a3)], [], rf_MM w m)) (by decide +kernel) rfl trivial ?_
  refine rf_few [1, 2, 3, 4, 0] rfl ?_
  exact s_X14_copies__266_250_3 C hE rf_fuel a1 a3 0 m hg
-- X14_copies__267_259
abbrev j_X14_copies__267_259 : rf_J := (14, yX14_copies, cX14_copies, 5, none)
theorem mw_X14_copies__267_259 : rf_ms j_X14_copies__267_259 4 := ⟨⟨rf_mem 71 (by decide +kernel), rf_mem 0 (by decide +kernel), rf_mem 71 (by decide +kernel)⟩, by decide +kernel, by decide⟩
def g_X14_copies__267_259_3_b (w : rf_w) (rec3 : Int32 → Int32 → Int32 → rf_m → Option (rf_m)) (a1 : Int32) (a3 : Int32) (a4 : Int32) (m : rf_m) : Option (rf_m) := (if 6 ≤ a4 then some m else rf_g (rf_in (a3 + a4) 6) (rf_g (rf_in (a1 + a4) 6) (rec3 a1 a3 (a4 + 1) (rf_i m 267 (Int32.toNatClampNeg (a1 + a4)) (m.1 259 (Int32.toNatClampNeg (a3 + a4)))))))
def g_X14_copies__267_259_3 (w : rf_w) : Nat → Int32 → Int32 → Int32 → rf_m → Option (rf_m)
  | 0, _, _, _, _ => none
  | n + 1, a1, a3, a4, m => g_X14_copies__267_259_3_b w (g_X14_copies__267_259_3 w n) a1 a3 a4 m
def g_X14_copies__267_259 (w : rf_w) (m : rf_m) (a1 : Int32) (a3 : Int32) : Option (rf_m) := g_X14_copies__267_259_3 w rf_fuel a1 a3 0 m
theorem s_X14_copies__267_259_3_b {w : rf_w} {K : rf_K} {r : rf_m} (C : rf_Ctx 14 cX14_copies 5 1 (rf_sh w) K) (hE : rf_End none K (rf_sh w) 0 0 none (rf_MM w r)) {rec3 : Int32 → Int32 → Int32 → rf_m → Option (rf_m)} (hr3 : ∀ (a1 : Int32) (a3 : Int32) (a4 : Int32) (m : rf_m), rec3 a1 a3 a4 m = some r → rf_V 5 (rf_sh w) K 0 0 3 ([(0, .ref 267), (1, .int a1), (2, .ref 259), (3, .int a3), (4, .int a4)], [], rf_MM w m)) (a1 : Int32) (a3 : Int32) (a4 : Int32) (m : rf_m) (hg : g_X14_copies__267_259_3_b w rec3 a1 a3 a4 m = some r) : rf_V 5 (rf_sh w) K 0 0 3 ([(0, .ref 267), (1, .int a1), (2, .ref 259), (3, .int a3), (4, .int a4)], [], rf_MM w m) := by
  unfold g_X14_copies__267_259_3_b at hg
  refine rf_seg C [(.iload 4, 2), (.iconst 6, 2)] (pc' := 7) (S' := ([(0, .ref 267), (1, .int a1), (2, .ref 259), (3, .int a3), (4, .int a4)], [.int 6, .int a4], rf_MM w m)) (by decide +kernel) rfl trivial ?_
  refine rf_icmp_ge C 21 28 (by decide +kernel) (fun hc => ?_) (fun hc => ?_)
  · replace hg := (if_pos hc).symm.trans hg
    obtain rfl := Option.some.inj hg
    exact rf_vret C hE (by decide +kernel)
  · replace hg := (if_neg hc).symm.trans hg
    obtain ⟨q0, hg⟩ := rf_g_some hg
    obtain ⟨q1, hg⟩ := rf_g_some hg
    refine rf_seg C [(.aload 0, 1), (.iload 1, 1), (.iload 4, 2), (.iadd, 1), (.aload 2, 1), (.iload 3, 1), (.iload 4, 2), (.iadd, 1), (.iaload, 1), (.iastore, 1), (.iinc 4 1, 3)] (pc' := 25) (S' := ([(4, .int (a4 + 1)), (0, .ref 267), (1, .int a1), (2, .ref 259), (3, .int a3)], [], rf_MM w (rf_i m 267 (Int32.toNatClampNeg (a1 + a4)) (m.1 259 (Int32.toNatClampNeg (a3 + a4)))))) (by decide +kernel) rfl (by exact ⟨(rf_in_of q0), (rf_in_of q1)⟩) ?_
    refine rf_goto C (-22) 3 (by decide +kernel) ?_
    refine rf_few [1, 2, 3, 4, 0] rfl ?_
    exact hr3 a1 a3 (a4 + 1) (rf_i m 267 (Int32.toNatClampNeg (a1 + a4)) (m.1 259 (Int32.toNatClampNeg (a3 + a4)))) hg
theorem s_X14_copies__267_259_3 {w : rf_w} {K : rf_K} {r : rf_m} (C : rf_Ctx 14 cX14_copies 5 1 (rf_sh w) K) (hE : rf_End none K (rf_sh w) 0 0 none (rf_MM w r)) (n : Nat) : ∀ (a1 : Int32) (a3 : Int32) (a4 : Int32) (m : rf_m), g_X14_copies__267_259_3 w n a1 a3 a4 m = some r → rf_V 5 (rf_sh w) K 0 0 3 ([(0, .ref 267), (1, .int a1), (2, .ref 259), (3, .int a3), (4, .int a4)], [], rf_MM w m) := by
  induction n with
  | zero => intro a1 a3 a4 m hg; cases hg
  | succ n ih => intro a1 a3 a4 m hg; exact s_X14_copies__267_259_3_b C hE ih a1 a3 a4 m hg
theorem c_X14_copies__267_259 {w : rf_w} {m : rf_m} {a1 : Int32} {a3 : Int32} {r : rf_m} (hg : g_X14_copies__267_259 w m a1 a3 = some r) : rf_Con j_X14_copies__267_259 1 (rf_sh w) [.ref 267, .int a1, .ref 259, .int a3] (rf_MM w m) none (rf_MM w r) := by
  refine rf_con j_X14_copies__267_259 1 ⟨by decide +kernel, rfl, Nat.le_of_ble_eq_true rfl⟩ (fun K C hE => ?_)
  unfold g_X14_copies__267_259 at hg
  show rf_V 5 (rf_sh w) K 0 0 0 ([(0, .ref 267), (1, .int a1), (2, .ref 259), (3, .int a3)], [], rf_MM w m)
  refine rf_seg C [(.iconst 0, 1), (.istore 4, 2)] (pc' := 3) (S' := ([(4, .int 0), (0, .ref 267), (1, .int a1), (2, .ref 259), (3, .int a3)], [], rf_MM w m)) (by decide +kernel) rfl trivial ?_
  refine rf_few [1, 2, 3, 4, 0] rfl ?_
  exact s_X14_copies__267_259_3 C hE rf_fuel a1 a3 0 m hg
-- X14_isBelow__266
abbrev j_X14_isBelow__266 : rf_J := (14, yX14_isBelow, cX14_isBelow, 2, (some .boolean))
theorem mw_X14_isBelow__266 : rf_ms j_X14_isBelow__266 2 := ⟨⟨rf_mem 72 (by decide +kernel), rf_mem 0 (by decide +kernel), rf_mem 72 (by decide +kernel)⟩, by decide +kernel, by decide⟩
def g_X14_isBelow__266 (w : rf_w) (m : rf_m) (a1 : Int32) : Option (Int32 × rf_m) := rf_g (rf_in ((a1 + 6) - 1) 6) ((if (0 : Int32) ≤ (m.1 266 (Int32.toNatClampNeg ((a1 + 6) - 1))) then some (0, m) else some (1, m)))
theorem c_X14_isBelow__266 {w : rf_w} {m : rf_m} {a1 : Int32} {r : Int32 × rf_m} (hg : g_X14_isBelow__266 w m a1 = some r) : rf_Con j_X14_isBelow__266 1 (rf_sh w) [.ref 266, .int a1] (rf_MM w m) (some (.int r.1)) (rf_MM w r.2) := by
  refine rf_con j_X14_isBelow__266 1 ⟨by decide +kernel, rfl, Nat.le_of_ble_eq_true rfl⟩ (fun K C hE => ?_)
  unfold g_X14_isBelow__266 at hg
  show rf_V 2 (rf_sh w) K 0 0 0 ([(0, .ref 266), (1, .int a1)], [], rf_MM w m)
  obtain ⟨q0, hg⟩ := rf_g_some hg
  refine rf_seg C [(.aload 0, 1), (.iload 1, 1), (.iconst 6, 2), (.iadd, 1), (.iconst 1, 1), (.isub, 1), (.iaload, 1)] (pc' := 8) (S' := ([(0, .ref 266), (1, .int a1)], [.int (m.1 266 (Int32.toNatClampNeg ((a1 + 6) - 1)))], rf_MM w m)) (by decide +kernel) rfl (rf_in_of q0) ?_
  refine rf_if_ge C 7 15 (by decide +kernel) (fun hc => ?_) (fun hc => ?_)
  · replace hg := (if_pos hc).symm.trans hg
    refine rf_seg C [(.iconst 0, 1)] (pc' := 16) (S' := ([(0, .ref 266), (1, .int a1)], [.int 0], rf_MM w m)) (by decide +kernel) rfl trivial ?_
    obtain rfl := Option.some.inj hg
    exact rf_zret C hE (by decide) (by decide +kernel)
  · replace hg := (if_neg hc).symm.trans hg
    refine rf_seg C [(.iconst 1, 1)] (pc' := 12) (S' := ([(0, .ref 266), (1, .int a1)], [.int 1], rf_MM w m)) (by decide +kernel) rfl trivial ?_
    refine rf_goto C 4 16 (by decide +kernel) ?_
    obtain rfl := Option.some.inj hg
    exact rf_zret C hE (by decide) (by decide +kernel)
-- X14_part
abbrev j_X14_part : rf_J := (14, yX14_part, cX14_part, 6, (some .int))
theorem mw_X14_part : rf_mv j_X14_part (rf_R 14) 2 := ⟨⟨rf_mem 74 (by decide +kernel), rf_mem 74 (by decide +kernel), rf_mem 0 (by decide +kernel), rf_mem 74 (by decide +kernel)⟩, by decide +kernel, by decide⟩
def g_X14_part_253 (w : rf_w) (a2 : Int32) (a3 : Int32) (a5 : Int32) (s0 : Int32) (m : rf_m) : Option (Int32 × rf_m) := (if s0 = 0 then some ((-2147483648), m) else (if a2 = 0 then (if a3 = 0 then some (a5, m) else some (-a5, m)) else rf_b (g_X14_quotientLong w m) fun y0 m0 => some (Int64.toInt32 y0, m0)))
def g_X14_part_252 (w : rf_w) (a2 : Int32) (a3 : Int32) (a5 : Int32) (m : rf_m) : Option (Int32 × rf_m) := g_X14_part_253 w a2 a3 a5 0 m
def g_X14_part_202 (w : rf_w) (a2 : Int32) (a3 : Int32) (s0 : Int32) (m : rf_m) : Option (Int32 × rf_m) := rf_b (g_X14_quotientLong w m) fun y0 m0 => rf_bv (g_X14_divides__259_267 w m0 0 0) fun m1 => (if s0 = 0 then g_X14_part_252 w a2 a3 (Int64.toInt32 y0) m1 else rf_b (g_X14_isLong w m1) fun y2 m2 => (if y2 = 0 then g_X14_part_252 w a2 a3 (Int64.toInt32 y0) m2 else rf_b (g_X14_quotientLong w m2) fun y3 m3 => (if (0 : Int32) ≤ (lg_cmp y3 1000000000) then g_X14_part_252 w a2 a3 (Int64.toInt32 y0) m3 else g_X14_part_253 w a2 a3 (Int64.toInt32 y0) 1 m3)))
def g_X14_part_201 (w : rf_w) (a2 : Int32) (a3 : Int32) (m : rf_m) : Option (Int32 × rf_m) := g_X14_part_202 w a2 a3 0 m
def g_X14_part_165 (w : rf_w) (a2 : Int32) (a3 : Int32) (m : rf_m) : Option (Int32 × rf_m) := rf_bv (g_X14_divides__266_267 w m 0 0) fun m0 => rf_b (g_X14_isLong w m0) fun y1 m1 => (if y1 = 0 then g_X14_part_201 w a2 a3 m1 else rf_b (g_X14_quotientLong w m1) fun y2 m2 => (if (0 : Int32) ≤ (lg_cmp y2 1000000000) then g_X14_part_201 w a2 a3 m2 else g_X14_part_202 w a2 a3 1 m2))
def g_X14_part_83_b (w : rf_w) (rec83 : Int32 → Int32 → Int32 → rf_m → Option (Int32 × rf_m)) (a1 : Int32) (a2 : Int32) (a3 : Int32) (m : rf_m) : Option (Int32 × rf_m) := rf_b (g_X14_isZero__266 w m 0) fun y0 m0 => (if y0 = 0 then rf_bv (g_X14_divides__267_266 w m0 0 0) fun m3 => rf_bv (g_X14_copies__267_266 w m3 0 0) fun m4 => rf_bv (g_X14_copies__266_250 w m4 0 0) fun m5 => rec83 a1 a2 a3 m5 else rf_bv (g_X14_copies__266_264 w m0 0 (6 * a1)) fun m1 => (if a3 = 0 then g_X14_part_165 w a2 a3 m1 else rf_bv (g_X14_turns__266 w m1 0) fun m2 => g_X14_part_165 w a2 a3 m2))
def g_X14_part_83 (w : rf_w) : Nat → Int32 → Int32 → Int32 → rf_m → Option (Int32 × rf_m)
  | 0, _, _, _, _ => none
  | n + 1, a1, a2, a3, m => g_X14_part_83_b w (g_X14_part_83 w n) a1 a2 a3 m
def g_X14_part_70 (w : rf_w) (a1 : Int32) (a2 : Int32) (a3 : Int32) (m : rf_m) : Option (Int32 × rf_m) := rf_bv (g_X14_copies__267_259 w m 0 0) fun m0 => g_X14_part_83 w rf_fuel a1 a2 a3 m0
def g_X14_part (w : rf_w) (m : rf_m) (a1 : Int32) (a2 : Int32) : Option (Int32 × rf_m) := rf_b (g_X14_isAngle w (rf_i m 206 0 0) a1) fun y0 m0 => (if y0 = 0 then some ((-2147483648), m0) else (if (m0.1 206 88) = 0 then some ((-2147483648), m0) else rf_g (rf_in a1 80) ((if (m0.1 263 (Int32.toNatClampNeg a1)) = 0 then some ((-2147483648), m0) else rf_bv (g_X14_copies__266_264 w m0 0 (6 * a1)) fun m2 => rf_b (g_X14_isBelow__266 w m2 0) fun y3 m3 => (if y3 = 0 then g_X14_part_70 w a1 a2 y3 m3 else rf_bv (g_X14_turns__266 w m3 0) fun m4 => g_X14_part_70 w a1 a2 y3 m4)))))
theorem s_X14_part_253 {w : rf_w} {K : rf_K} {r : Int32 × rf_m} (C : rf_Ctx 14 cX14_part 6 3 (rf_sh w) K) (hE : rf_End (some .int) K (rf_sh w) 0 0 (some (.int r.1)) (rf_MM w r.2)) (a2 : Int32) (a3 : Int32) (a5 : Int32) (s0 : Int32) (m : rf_m) (hg : g_X14_part_253 w a2 a3 a5 s0 m = some r) : rf_V 6 (rf_sh w) K 0 0 253 ([(0, .ref 206), (2, .int a2), (3, .int a3), (5, .int a5)], [.int s0], rf_MM w m) := by
  unfold g_X14_part_253 at hg
  refine rf_seg C [(.istore 4, 2), (.iload 4, 2)] (pc' := 257) (S' := ([(4, .int s0), (0, .ref 206), (2, .int a2), (3, .int a3), (5, .int a5)], [.int s0], rf_MM w m)) (by decide +kernel) rfl trivial ?_
  refine rf_if_ne C 7 264 (by decide +kernel) (fun hc => ?_) (fun hc => ?_)
  · replace hg := (if_neg hc).symm.trans hg
    refine rf_seg C [(.iload 2, 1)] (pc' := 265) (S' := ([(4, .int s0), (0, .ref 206), (2, .int a2), (3, .int a3), (5, .int a5)], [.int a2], rf_MM w m)) (by decide +kernel) rfl trivial ?_
    refine rf_if_eq C 11 276 (by decide +kernel) (fun hc => ?_) (fun hc => ?_)
    · replace hg := (if_pos hc).symm.trans hg
      refine rf_seg C [(.iload 3, 1)] (pc' := 277) (S' := ([(4, .int s0), (0, .ref 206), (2, .int a2), (3, .int a3), (5, .int a5)], [.int a3], rf_MM w m)) (by decide +kernel) rfl trivial ?_
      refine rf_if_eq C 9 286 (by decide +kernel) (fun hc => ?_) (fun hc => ?_)
      · replace hg := (if_pos hc).symm.trans hg
        refine rf_seg C [(.iload 5, 2)] (pc' := 288) (S' := ([(4, .int s0), (0, .ref 206), (2, .int a2), (3, .int a3), (5, .int a5)], [.int a5], rf_MM w m)) (by decide +kernel) rfl trivial ?_
        obtain rfl := Option.some.inj hg
        exact rf_iret C hE (by decide +kernel)
      · replace hg := (if_neg hc).symm.trans hg
        refine rf_seg C [(.iload 5, 2), (.ineg, 1)] (pc' := 283) (S' := ([(4, .int s0), (0, .ref 206), (2, .int a2), (3, .int a3), (5, .int a5)], [.int (-a5)], rf_MM w m)) (by decide +kernel) rfl trivial ?_
        refine rf_goto C 5 288 (by decide +kernel) ?_
        obtain rfl := Option.some.inj hg
        exact rf_iret C hE (by decide +kernel)
    · replace hg := (if_neg hc).symm.trans hg
      refine rf_seg C [(.aload 0, 1)] (pc' := 269) (S' := ([(4, .int s0), (0, .ref 206), (2, .int a2), (3, .int a3), (5, .int a5)], [.ref 206], rf_MM w m)) (by decide +kernel) rfl trivial ?_
      obtain ⟨y0, m0, hc0, hg⟩ := rf_b_some hg
      refine rf_callv C rf_fit0 j_X14_quotientLong (ci := 14) (As := []) (rest := []) mw_X14_quotientLong (c_X14_quotientLong hc0) (by decide) rfl (by decide) lk_14_788 rfl rfl (Nat.le_of_ble_eq_true rfl) (by decide +kernel) ?_
      show rf_V 6 (rf_sh w) K 0 0 272 ([(4, .int s0), (0, .ref 206), (2, .int a2), (3, .int a3), (5, .int a5)], [.long y0], rf_MM w m0)
      refine rf_seg C [(.l2i, 1)] (pc' := 273) (S' := ([(4, .int s0), (0, .ref 206), (2, .int a2), (3, .int a3), (5, .int a5)], [.int (Int64.toInt32 y0)], rf_MM w m0)) (by decide +kernel) rfl trivial ?_
      refine rf_goto C 15 288 (by decide +kernel) ?_
      obtain rfl := Option.some.inj hg
      exact rf_iret C hE (by decide +kernel)
  · replace hg := (if_pos hc).symm.trans hg
    refine rf_seg C [(.iconst (-2147483648), 3)] (pc' := 263) (S' := ([(4, .int s0), (0, .ref 206), (2, .int a2), (3, .int a3), (5, .int a5)], [.int ((-2147483648))], rf_MM w m)) (by decide +kernel) rfl trivial ?_
    obtain rfl := Option.some.inj hg
    exact rf_iret C hE (by decide +kernel)
theorem s_X14_part_252 {w : rf_w} {K : rf_K} {r : Int32 × rf_m} (C : rf_Ctx 14 cX14_part 6 3 (rf_sh w) K) (hE : rf_End (some .int) K (rf_sh w) 0 0 (some (.int r.1)) (rf_MM w r.2)) (a2 : Int32) (a3 : Int32) (a5 : Int32) (m : rf_m) (hg : g_X14_part_252 w a2 a3 a5 m = some r) : rf_V 6 (rf_sh w) K 0 0 252 ([(0, .ref 206), (2, .int a2), (3, .int a3), (5, .int a5)], [], rf_MM w m) := by
  unfold g_X14_part_252 at hg
  refine rf_seg C [(.iconst 0, 1)] (pc' := 253) (S' := ([(0, .ref 206), (2, .int a2), (3, .int a3), (5, .int a5)], [.int 0], rf_MM w m)) (by decide +kernel) rfl trivial ?_
  refine rf_few [0, 1, 2, 3] rfl ?_
  exact s_X14_part_253 C hE a2 a3 a5 0 m hg
theorem s_X14_part_202 {w : rf_w} {K : rf_K} {r : Int32 × rf_m} (C : rf_Ctx 14 cX14_part 6 3 (rf_sh w) K) (hE : rf_End (some .int) K (rf_sh w) 0 0 (some (.int r.1)) (rf_MM w r.2)) (a2 : Int32) (a3 : Int32) (s0 : Int32) (m : rf_m) (hg : g_X14_part_202 w a2 a3 s0 m = some r) : rf_V 6 (rf_sh w) K 0 0 202 ([(0, .ref 206), (2, .int a2), (3, .int a3)], [.int s0], rf_MM w m) := by
  unfold g_X14_part_202 at hg
  refine rf_seg C [(.istore 4, 2), (.aload 0, 1)] (pc' := 205) (S' := ([(4, .int s0), (0, .ref 206), (2, .int a2), (3, .int a3)], [.ref 206], rf_MM w m)) (by decide +kernel) rfl trivial ?_
  obtain ⟨y0, m0, hc0, hg⟩ := rf_b_some hg
  refine rf_callv C rf_fit0 j_X14_quotientLong (ci := 14) (As := []) (rest := []) mw_X14_quotientLong (c_X14_quotientLong hc0) (by decide) rfl (by decide) lk_14_788 rfl rfl (Nat.le_of_ble_eq_true rfl) (by decide +kernel) ?_
  show rf_V 6 (rf_sh w) K 0 0 208 ([(4, .int s0), (0, .ref 206), (2, .int a2), (3, .int a3)], [.long y0], rf_MM w m0)
  refine rf_seg C [(.l2i, 1), (.istore 5, 2), (.aload 0, 1), (.aload 0, 1), (.invokeinterface 14 82, 3), (.iconst 0, 1), (.aload 0, 1), (.invokeinterface 14 92, 3), (.iconst 0, 1)] (pc' := 222) (S' := ([(5, .int (Int64.toInt32 y0)), (4, .int s0), (0, .ref 206), (2, .int a2), (3, .int a3)], [.int 0, .ref 267, .int 0, .ref 259, .ref 206], rf_MM w m0)) (by decide +kernel) rfl trivial ?_
  obtain ⟨m1, hc1, hg⟩ := rf_bv_some hg
  refine rf_callv C rf_fit0 j_X14_divides__259_267 (ci := 14) (As := [.ref 259, .int 0, .ref 267, .int 0]) (rest := []) mw_X14_divides__259_267 (c_X14_divides__259_267 hc1) (by decide) rfl (by decide) lk_14_759 rfl rfl (Nat.le_of_ble_eq_true rfl) (by decide +kernel) ?_
  show rf_V 6 (rf_sh w) K 0 0 225 ([(5, .int (Int64.toInt32 y0)), (4, .int s0), (0, .ref 206), (2, .int a2), (3, .int a3)], [], rf_MM w m1)
  refine rf_seg C [(.iload 4, 2)] (pc' := 227) (S' := ([(5, .int (Int64.toInt32 y0)), (4, .int s0), (0, .ref 206), (2, .int a2), (3, .int a3)], [.int s0], rf_MM w m1)) (by decide +kernel) rfl trivial ?_
  refine rf_if_eq C 25 252 (by decide +kernel) (fun hc => ?_) (fun hc => ?_)
  · replace hg := (if_pos hc).symm.trans hg
    refine rf_few [2, 3, 4, 0] rfl ?_
    exact s_X14_part_252 C hE a2 a3 (Int64.toInt32 y0) m1 hg
  · replace hg := (if_neg hc).symm.trans hg
    refine rf_seg C [(.aload 0, 1)] (pc' := 231) (S' := ([(5, .int (Int64.toInt32 y0)), (4, .int s0), (0, .ref 206), (2, .int a2), (3, .int a3)], [.ref 206], rf_MM w m1)) (by decide +kernel) rfl trivial ?_
    obtain ⟨y2, m2, hc2, hg⟩ := rf_b_some hg
    refine rf_callv C rf_fit0 j_X14_isLong (ci := 14) (As := []) (rest := []) mw_X14_isLong (c_X14_isLong hc2) (by decide) rfl (by decide) lk_14_785 rfl rfl (Nat.le_of_ble_eq_true rfl) (by decide +kernel) ?_
    show rf_V 6 (rf_sh w) K 0 0 234 ([(5, .int (Int64.toInt32 y0)), (4, .int s0), (0, .ref 206), (2, .int a2), (3, .int a3)], [.int y2], rf_MM w m2)
    refine rf_if_eq C 18 252 (by decide +kernel) (fun hc => ?_) (fun hc => ?_)
    · replace hg := (if_pos hc).symm.trans hg
      refine rf_few [2, 3, 4, 0] rfl ?_
      exact s_X14_part_252 C hE a2 a3 (Int64.toInt32 y0) m2 hg
    · replace hg := (if_neg hc).symm.trans hg
      refine rf_seg C [(.aload 0, 1)] (pc' := 238) (S' := ([(5, .int (Int64.toInt32 y0)), (4, .int s0), (0, .ref 206), (2, .int a2), (3, .int a3)], [.ref 206], rf_MM w m2)) (by decide +kernel) rfl trivial ?_
      obtain ⟨y3, m3, hc3, hg⟩ := rf_b_some hg
      refine rf_callv C rf_fit0 j_X14_quotientLong (ci := 14) (As := []) (rest := []) mw_X14_quotientLong (c_X14_quotientLong hc3) (by decide) rfl (by decide) lk_14_788 rfl rfl (Nat.le_of_ble_eq_true rfl) (by decide +kernel) ?_
      show rf_V 6 (rf_sh w) K 0 0 241 ([(5, .int (Int64.toInt32 y0)), (4, .int s0), (0, .ref 206), (2, .int a2), (3, .int a3)], [.long y3], rf_MM w m3)
      refine rf_seg C [(.goto_w 1000000000, 3), (.lcmp, 1)] (pc' := 245) (S' := ([(5, .int (Int64.toInt32 y0)), (4, .int s0), (0, .ref 206), (2, .int a2), (3, .int a3)], [.int (lg_cmp y3 1000000000)], rf_MM w m3)) (by decide +kernel) rfl trivial ?_
      refine rf_if_ge C 7 252 (by decide +kernel) (fun hc => ?_) (fun hc => ?_)
      · replace hg := (if_pos hc).symm.trans hg
        refine rf_few [2, 3, 4, 0] rfl ?_
        exact s_X14_part_252 C hE a2 a3 (Int64.toInt32 y0) m3 hg
      · replace hg := (if_neg hc).symm.trans hg
        refine rf_seg C [(.iconst 1, 1)] (pc' := 249) (S' := ([(5, .int (Int64.toInt32 y0)), (4, .int s0), (0, .ref 206), (2, .int a2), (3, .int a3)], [.int 1], rf_MM w m3)) (by decide +kernel) rfl trivial ?_
        refine rf_goto C 4 253 (by decide +kernel) ?_
        refine rf_few [2, 3, 4, 0] rfl ?_
        exact s_X14_part_253 C hE a2 a3 (Int64.toInt32 y0) 1 m3 hg
theorem s_X14_part_201 {w : rf_w} {K : rf_K} {r : Int32 × rf_m} (C : rf_Ctx 14 cX14_part 6 3 (rf_sh w) K) (hE : rf_End (some .int) K (rf_sh w) 0 0 (some (.int r.1)) (rf_MM w r.2)) (a2 : Int32) (a3 : Int32) (m : rf_m) (hg : g_X14_part_201 w a2 a3 m = some r) : rf_V 6 (rf_sh w) K 0 0 201 ([(0, .ref 206), (2, .int a2), (3, .int a3)], [], rf_MM w m) := by
  unfold g_X14_part_201 at hg
  refine rf_seg C [(.iconst 0, 1)] (pc' := 202) (S' := ([(0, .ref 206), (2, .int a2), (3, .int a3)], [.int 0], rf_MM w m)) (by decide +kernel) rfl trivial ?_
  refine rf_few [0, 1, 2] rfl ?_
  exact s_X14_part_202 C hE a2 a3 0 m hg
theorem s_X14_part_165 {w : rf_w} {K : rf_K} {r : Int32 × rf_m} (C : rf_Ctx 14 cX14_part 6 3 (rf_sh w) K) (hE : rf_End (some .int) K (rf_sh w) 0 0 (some (.int r.1)) (rf_MM w r.2)) (a2 : Int32) (a3 : Int32) (m : rf_m) (hg : g_X14_part_165 w a2 a3 m = some r) : rf_V 6 (rf_sh w) K 0 0 165 ([(0, .ref 206), (2, .int a2), (3, .int a3)], [], rf_MM w m) := by
  unfold g_X14_part_165 at hg
  refine rf_seg C [(.aload 0, 1), (.aload 0, 1), (.invokeinterface 14 91, 3), (.iconst 0, 1), (.aload 0, 1), (.invokeinterface 14 92, 3), (.iconst 0, 1)] (pc' := 176) (S' := ([(0, .ref 206), (2, .int a2), (3, .int a3)], [.int 0, .ref 267, .int 0, .ref 266, .ref 206], rf_MM w m)) (by decide +kernel) rfl trivial ?_
  obtain ⟨m0, hc0, hg⟩ := rf_bv_some hg
  refine rf_callv C rf_fit0 j_X14_divides__266_267 (ci := 14) (As := [.ref 266, .int 0, .ref 267, .int 0]) (rest := []) mw_X14_divides__266_267 (c_X14_divides__266_267 hc0) (by decide) rfl (by decide) lk_14_759 rfl rfl (Nat.le_of_ble_eq_true rfl) (by decide +kernel) ?_
  show rf_V 6 (rf_sh w) K 0 0 179 ([(0, .ref 206), (2, .int a2), (3, .int a3)], [], rf_MM w m0)
  refine rf_seg C [(.aload 0, 1)] (pc' := 180) (S' := ([(0, .ref 206), (2, .int a2), (3, .int a3)], [.ref 206], rf_MM w m0)) (by decide +kernel) rfl trivial ?_
  obtain ⟨y1, m1, hc1, hg⟩ := rf_b_some hg
  refine rf_callv C rf_fit0 j_X14_isLong (ci := 14) (As := []) (rest := []) mw_X14_isLong (c_X14_isLong hc1) (by decide) rfl (by decide) lk_14_785 rfl rfl (Nat.le_of_ble_eq_true rfl) (by decide +kernel) ?_
  show rf_V 6 (rf_sh w) K 0 0 183 ([(0, .ref 206), (2, .int a2), (3, .int a3)], [.int y1], rf_MM w m1)
  refine rf_if_eq C 18 201 (by decide +kernel) (fun hc => ?_) (fun hc => ?_)
  · replace hg := (if_pos hc).symm.trans hg
    refine rf_few [0, 1, 2] rfl ?_
    exact s_X14_part_201 C hE a2 a3 m1 hg
  · replace hg := (if_neg hc).symm.trans hg
    refine rf_seg C [(.aload 0, 1)] (pc' := 187) (S' := ([(0, .ref 206), (2, .int a2), (3, .int a3)], [.ref 206], rf_MM w m1)) (by decide +kernel) rfl trivial ?_
    obtain ⟨y2, m2, hc2, hg⟩ := rf_b_some hg
    refine rf_callv C rf_fit0 j_X14_quotientLong (ci := 14) (As := []) (rest := []) mw_X14_quotientLong (c_X14_quotientLong hc2) (by decide) rfl (by decide) lk_14_788 rfl rfl (Nat.le_of_ble_eq_true rfl) (by decide +kernel) ?_
    show rf_V 6 (rf_sh w) K 0 0 190 ([(0, .ref 206), (2, .int a2), (3, .int a3)], [.long y2], rf_MM w m2)
    refine rf_seg C [(.goto_w 1000000000, 3), (.lcmp, 1)] (pc' := 194) (S' := ([(0, .ref 206), (2, .int a2), (3, .int a3)], [.int (lg_cmp y2 1000000000)], rf_MM w m2)) (by decide +kernel) rfl trivial ?_
    refine rf_if_ge C 7 201 (by decide +kernel) (fun hc => ?_) (fun hc => ?_)
    · replace hg := (if_pos hc).symm.trans hg
      refine rf_few [0, 1, 2] rfl ?_
      exact s_X14_part_201 C hE a2 a3 m2 hg
    · replace hg := (if_neg hc).symm.trans hg
      refine rf_seg C [(.iconst 1, 1)] (pc' := 198) (S' := ([(0, .ref 206), (2, .int a2), (3, .int a3)], [.int 1], rf_MM w m2)) (by decide +kernel) rfl trivial ?_
      refine rf_goto C 4 202 (by decide +kernel) ?_
      refine rf_few [0, 1, 2] rfl ?_
      exact s_X14_part_202 C hE a2 a3 1 m2 hg
theorem s_X14_part_83_b {w : rf_w} {K : rf_K} {r : Int32 × rf_m} (C : rf_Ctx 14 cX14_part 6 3 (rf_sh w) K) (hE : rf_End (some .int) K (rf_sh w) 0 0 (some (.int r.1)) (rf_MM w r.2)) {rec83 : Int32 → Int32 → Int32 → rf_m → Option (Int32 × rf_m)} (hr83 : ∀ (a1 : Int32) (a2 : Int32) (a3 : Int32) (m : rf_m), rec83 a1 a2 a3 m = some r → rf_V 6 (rf_sh w) K 0 0 83 ([(0, .ref 206), (1, .int a1), (2, .int a2), (3, .int a3)], [], rf_MM w m)) (a1 : Int32) (a2 : Int32) (a3 : Int32) (m : rf_m) (hg : g_X14_part_83_b w rec83 a1 a2 a3 m = some r) : rf_V 6 (rf_sh w) K 0 0 83 ([(0, .ref 206), (1, .int a1), (2, .int a2), (3, .int a3)], [], rf_MM w m) := by
  unfold g_X14_part_83_b at hg
  refine rf_seg C [(.aload 0, 1), (.invokeinterface 14 91, 3), (.iconst 0, 1)] (pc' := 88) (S' := ([(0, .ref 206), (1, .int a1), (2, .int a2), (3, .int a3)], [.int 0, .ref 266], rf_MM w m)) (by decide +kernel) rfl trivial ?_
  obtain ⟨y0, m0, hc0, hg⟩ := rf_b_some hg
  refine rf_calls C rf_fit0 j_X14_isZero__266 (As := [.ref 266, .int 0]) (rest := []) mw_X14_isZero__266 (c_X14_isZero__266 hc0) (by decide) lk_14_762 rfl rfl (Nat.le_of_ble_eq_true rfl) (by decide +kernel) ?_
  show rf_V 6 (rf_sh w) K 0 0 91 ([(0, .ref 206), (1, .int a1), (2, .int a2), (3, .int a3)], [.int y0], rf_MM w m0)
  refine rf_if_ne C 46 137 (by decide +kernel) (fun hc => ?_) (fun hc => ?_)
  · replace hg := (if_neg hc).symm.trans hg
    refine rf_seg C [(.aload 0, 1), (.invokeinterface 14 91, 3), (.iconst 0, 1), (.aload 0, 1), (.invokeinterface 14 87, 3), (.iconst 6, 2), (.iload 1, 1), (.imul, 1)] (pc' := 150) (S' := ([(0, .ref 206), (1, .int a1), (2, .int a2), (3, .int a3)], [.int (6 * a1), .ref 264, .int 0, .ref 266], rf_MM w m0)) (by decide +kernel) rfl trivial ?_
    obtain ⟨m1, hc1, hg⟩ := rf_bv_some hg
    refine rf_calls C rf_fit0 j_X14_copies__266_264 (As := [.ref 266, .int 0, .ref 264, .int (6 * a1)]) (rest := []) mw_X14_copies__266_264 (c_X14_copies__266_264 hc1) (by decide) lk_14_744 rfl rfl (Nat.le_of_ble_eq_true rfl) (by decide +kernel) ?_
    show rf_V 6 (rf_sh w) K 0 0 153 ([(0, .ref 206), (1, .int a1), (2, .int a2), (3, .int a3)], [], rf_MM w m1)
    refine rf_seg C [(.iload 3, 1)] (pc' := 154) (S' := ([(0, .ref 206), (1, .int a1), (2, .int a2), (3, .int a3)], [.int a3], rf_MM w m1)) (by decide +kernel) rfl trivial ?_
    refine rf_if_eq C 11 165 (by decide +kernel) (fun hc => ?_) (fun hc => ?_)
    · replace hg := (if_pos hc).symm.trans hg
      refine rf_few [0, 2, 3] rfl ?_
      exact s_X14_part_165 C hE a2 a3 m1 hg
    · replace hg := (if_neg hc).symm.trans hg
      refine rf_seg C [(.aload 0, 1), (.invokeinterface 14 91, 3), (.iconst 0, 1)] (pc' := 162) (S' := ([(0, .ref 206), (1, .int a1), (2, .int a2), (3, .int a3)], [.int 0, .ref 266], rf_MM w m1)) (by decide +kernel) rfl trivial ?_
      obtain ⟨m2, hc2, hg⟩ := rf_bv_some hg
      refine rf_calls C rf_fit0 j_X14_turns__266 (As := [.ref 266, .int 0]) (rest := []) mw_X14_turns__266 (c_X14_turns__266 hc2) (by decide) lk_14_736 rfl rfl (Nat.le_of_ble_eq_true rfl) (by decide +kernel) ?_
      show rf_V 6 (rf_sh w) K 0 0 165 ([(0, .ref 206), (1, .int a1), (2, .int a2), (3, .int a3)], [], rf_MM w m2)
      refine rf_few [0, 2, 3] rfl ?_
      exact s_X14_part_165 C hE a2 a3 m2 hg
  · replace hg := (if_pos hc).symm.trans hg
    refine rf_seg C [(.aload 0, 1), (.aload 0, 1), (.invokeinterface 14 92, 3), (.iconst 0, 1), (.aload 0, 1), (.invokeinterface 14 91, 3), (.iconst 0, 1)] (pc' := 105) (S' := ([(0, .ref 206), (1, .int a1), (2, .int a2), (3, .int a3)], [.int 0, .ref 266, .int 0, .ref 267, .ref 206], rf_MM w m0)) (by decide +kernel) rfl trivial ?_
    obtain ⟨m3, hc3, hg⟩ := rf_bv_some hg
    refine rf_callv C rf_fit0 j_X14_divides__267_266 (ci := 14) (As := [.ref 267, .int 0, .ref 266, .int 0]) (rest := []) mw_X14_divides__267_266 (c_X14_divides__267_266 hc3) (by decide) rfl (by decide) lk_14_759 rfl rfl (Nat.le_of_ble_eq_true rfl) (by decide +kernel) ?_
    show rf_V 6 (rf_sh w) K 0 0 108 ([(0, .ref 206), (1, .int a1), (2, .int a2), (3, .int a3)], [], rf_MM w m3)
    refine rf_seg C [(.aload 0, 1), (.invokeinterface 14 92, 3), (.iconst 0, 1), (.aload 0, 1), (.invokeinterface 14 91, 3), (.iconst 0, 1)] (pc' := 118) (S' := ([(0, .ref 206), (1, .int a1), (2, .int a2), (3, .int a3)], [.int 0, .ref 266, .int 0, .ref 267], rf_MM w m3)) (by decide +kernel) rfl trivial ?_
    obtain ⟨m4, hc4, hg⟩ := rf_bv_some hg
    refine rf_calls C rf_fit0 j_X14_copies__267_266 (As := [.ref 267, .int 0, .ref 266, .int 0]) (rest := []) mw_X14_copies__267_266 (c_X14_copies__267_266 hc4) (by decide) lk_14_744 rfl rfl (Nat.le_of_ble_eq_true rfl) (by decide +kernel) ?_
    show rf_V 6 (rf_sh w) K 0 0 121 ([(0, .ref 206), (1, .int a1), (2, .int a2), (3, .int a3)], [], rf_MM w m4)
    refine rf_seg C [(.aload 0, 1), (.invokeinterface 14 91, 3), (.iconst 0, 1), (.aload 0, 1), (.invokeinterface 14 73, 3), (.iconst 0, 1)] (pc' := 131) (S' := ([(0, .ref 206), (1, .int a1), (2, .int a2), (3, .int a3)], [.int 0, .ref 250, .int 0, .ref 266], rf_MM w m4)) (by decide +kernel) rfl trivial ?_
    obtain ⟨m5, hc5, hg⟩ := rf_bv_some hg
    refine rf_calls C rf_fit0 j_X14_copies__266_250 (As := [.ref 266, .int 0, .ref 250, .int 0]) (rest := []) mw_X14_copies__266_250 (c_X14_copies__266_250 hc5) (by decide) lk_14_744 rfl rfl (Nat.le_of_ble_eq_true rfl) (by decide +kernel) ?_
    show rf_V 6 (rf_sh w) K 0 0 134 ([(0, .ref 206), (1, .int a1), (2, .int a2), (3, .int a3)], [], rf_MM w m5)
    refine rf_goto C (-51) 83 (by decide +kernel) ?_
    refine rf_few [0, 1, 2, 3] rfl ?_
    exact hr83 a1 a2 a3 m5 hg
theorem s_X14_part_83 {w : rf_w} {K : rf_K} {r : Int32 × rf_m} (C : rf_Ctx 14 cX14_part 6 3 (rf_sh w) K) (hE : rf_End (some .int) K (rf_sh w) 0 0 (some (.int r.1)) (rf_MM w r.2)) (n : Nat) : ∀ (a1 : Int32) (a2 : Int32) (a3 : Int32) (m : rf_m), g_X14_part_83 w n a1 a2 a3 m = some r → rf_V 6 (rf_sh w) K 0 0 83 ([(0, .ref 206), (1, .int a1), (2, .int a2), (3, .int a3)], [], rf_MM w m) := by
  induction n with
  | zero => intro a1 a2 a3 m hg; cases hg
  | succ n ih => intro a1 a2 a3 m hg; exact s_X14_part_83_b C hE ih a1 a2 a3 m hg
theorem s_X14_part_70 {w : rf_w} {K : rf_K} {r : Int32 × rf_m} (C : rf_Ctx 14 cX14_part 6 3 (rf_sh w) K) (hE : rf_End (some .int) K (rf_sh w) 0 0 (some (.int r.1)) (rf_MM w r.2)) (a1 : Int32) (a2 : Int32) (a3 : Int32) (m : rf_m) (hg : g_X14_part_70 w a1 a2 a3 m = some r) : rf_V 6 (rf_sh w) K 0 0 70 ([(0, .ref 206), (1, .int a1), (2, .int a2), (3, .int a3)], [], rf_MM w m) := by
  unfold g_X14_part_70 at hg
  refine rf_seg C [(.aload 0, 1), (.invokeinterface 14 92, 3), (.iconst 0, 1), (.aload 0, 1), (.invokeinterface 14 82, 3), (.iconst 0, 1)] (pc' := 80) (S' := ([(0, .ref 206), (1, .int a1), (2, .int a2), (3, .int a3)], [.int 0, .ref 259, .int 0, .ref 267], rf_MM w m)) (by decide +kernel) rfl trivial ?_
  obtain ⟨m0, hc0, hg⟩ := rf_bv_some hg
  refine rf_calls C rf_fit0 j_X14_copies__267_259 (As := [.ref 267, .int 0, .ref 259, .int 0]) (rest := []) mw_X14_copies__267_259 (c_X14_copies__267_259 hc0) (by decide) lk_14_744 rfl rfl (Nat.le_of_ble_eq_true rfl) (by decide +kernel) ?_
  show rf_V 6 (rf_sh w) K 0 0 83 ([(0, .ref 206), (1, .int a1), (2, .int a2), (3, .int a3)], [], rf_MM w m0)
  refine rf_few [0, 1, 2, 3] rfl ?_
  exact s_X14_part_83 C hE rf_fuel a1 a2 a3 m0 hg
theorem c_X14_part {w : rf_w} {m : rf_m} {a1 : Int32} {a2 : Int32} {r : Int32 × rf_m} (hg : g_X14_part w m a1 a2 = some r) : rf_Con j_X14_part 3 (rf_sh w) [.ref 206, .int a1, .int a2] (rf_MM w m) (some (.int r.1)) (rf_MM w r.2) := by
  refine rf_con j_X14_part 3 ⟨by decide +kernel, rfl, Nat.le_of_ble_eq_true rfl⟩ (fun K C hE => ?_)
  unfold g_X14_part at hg
  show rf_V 6 (rf_sh w) K 0 0 0 ([(0, .ref 206), (1, .int a1), (2, .int a2)], [], rf_MM w m)
  refine rf_seg C [(.aload 0, 1), (.iconst 0, 1), (.multianewarray 14 0, 3), (.aload 0, 1), (.iload 1, 1)] (pc' := 7) (S' := ([(0, .ref 206), (1, .int a1), (2, .int a2)], [.int a1, .ref 206], rf_MM w (rf_i m 206 0 0))) (by decide +kernel) rfl trivial ?_
  obtain ⟨y0, m0, hc0, hg⟩ := rf_b_some hg
  refine rf_callv C rf_fit0 j_X14_isAngle (ci := 14) (As := [.int a1]) (rest := []) mw_X14_isAngle (c_X14_isAngle hc0) (by decide) rfl (by decide) lk_14_402 rfl rfl (Nat.le_of_ble_eq_true rfl) (by decide +kernel) ?_
  show rf_V 6 (rf_sh w) K 0 0 10 ([(0, .ref 206), (1, .int a1), (2, .int a2)], [.int y0], rf_MM w m0)
  refine rf_if_eq C 19 29 (by decide +kernel) (fun hc => ?_) (fun hc => ?_)
  · replace hg := (if_pos hc).symm.trans hg
    refine rf_seg C [(.iconst (-2147483648), 3)] (pc' := 32) (S' := ([(0, .ref 206), (1, .int a1), (2, .int a2)], [.int ((-2147483648))], rf_MM w m0)) (by decide +kernel) rfl trivial ?_
    obtain rfl := Option.some.inj hg
    exact rf_iret C hE (by decide +kernel)
  · replace hg := (if_neg hc).symm.trans hg
    refine rf_seg C [(.aload 0, 1), (.invokeinterface 14 88, 3)] (pc' := 17) (S' := ([(0, .ref 206), (1, .int a1), (2, .int a2)], [.int (m0.1 206 88)], rf_MM w m0)) (by decide +kernel) rfl trivial ?_
    refine rf_if_eq C 12 29 (by decide +kernel) (fun hc => ?_) (fun hc => ?_)
    · replace hg := (if_pos hc).symm.trans hg
      refine rf_seg C [(.iconst (-2147483648), 3)] (pc' := 32) (S' := ([(0, .ref 206), (1, .int a1), (2, .int a2)], [.int ((-2147483648))], rf_MM w m0)) (by decide +kernel) rfl trivial ?_
      obtain rfl := Option.some.inj hg
      exact rf_iret C hE (by decide +kernel)
    · replace hg := (if_neg hc).symm.trans hg
      obtain ⟨q1, hg⟩ := rf_g_some hg
      refine rf_seg C [(.aload 0, 1), (.invokeinterface 14 86, 3), (.iload 1, 1), (.baload, 1)] (pc' := 26) (S' := ([(0, .ref 206), (1, .int a1), (2, .int a2)], [.int (m0.1 263 (Int32.toNatClampNeg a1))], rf_MM w m0)) (by decide +kernel) rfl (rf_in_of q1) ?_
      refine rf_if_ne C 7 33 (by decide +kernel) (fun hc => ?_) (fun hc => ?_)
      · replace hg := (if_neg hc).symm.trans hg
        refine rf_seg C [(.aload 0, 1), (.invokeinterface 14 91, 3), (.iconst 0, 1), (.aload 0, 1), (.invokeinterface 14 87, 3), (.iconst 6, 2), (.iload 1, 1), (.imul, 1)] (pc' := 46) (S' := ([(0, .ref 206), (1, .int a1), (2, .int a2)], [.int (6 * a1), .ref 264, .int 0, .ref 266], rf_MM w m0)) (by decide +kernel) rfl trivial ?_
        obtain ⟨m2, hc2, hg⟩ := rf_bv_some hg
        refine rf_calls C rf_fit0 j_X14_copies__266_264 (As := [.ref 266, .int 0, .ref 264, .int (6 * a1)]) (rest := []) mw_X14_copies__266_264 (c_X14_copies__266_264 hc2) (by decide) lk_14_744 rfl rfl (Nat.le_of_ble_eq_true rfl) (by decide +kernel) ?_
        show rf_V 6 (rf_sh w) K 0 0 49 ([(0, .ref 206), (1, .int a1), (2, .int a2)], [], rf_MM w m2)
        refine rf_seg C [(.aload 0, 1), (.invokeinterface 14 91, 3), (.iconst 0, 1)] (pc' := 54) (S' := ([(0, .ref 206), (1, .int a1), (2, .int a2)], [.int 0, .ref 266], rf_MM w m2)) (by decide +kernel) rfl trivial ?_
        obtain ⟨y3, m3, hc3, hg⟩ := rf_b_some hg
        refine rf_calls C rf_fit0 j_X14_isBelow__266 (As := [.ref 266, .int 0]) (rest := []) mw_X14_isBelow__266 (c_X14_isBelow__266 hc3) (by decide) lk_14_755 rfl rfl (Nat.le_of_ble_eq_true rfl) (by decide +kernel) ?_
        show rf_V 6 (rf_sh w) K 0 0 57 ([(0, .ref 206), (1, .int a1), (2, .int a2)], [.int y3], rf_MM w m3)
        refine rf_seg C [(.istore 3, 1), (.iload 3, 1)] (pc' := 59) (S' := ([(3, .int y3), (0, .ref 206), (1, .int a1), (2, .int a2)], [.int y3], rf_MM w m3)) (by decide +kernel) rfl trivial ?_
        refine rf_if_eq C 11 70 (by decide +kernel) (fun hc => ?_) (fun hc => ?_)
        · replace hg := (if_pos hc).symm.trans hg
          refine rf_few [1, 2, 3, 0] rfl ?_
          exact s_X14_part_70 C hE a1 a2 y3 m3 hg
        · replace hg := (if_neg hc).symm.trans hg
          refine rf_seg C [(.aload 0, 1), (.invokeinterface 14 91, 3), (.iconst 0, 1)] (pc' := 67) (S' := ([(3, .int y3), (0, .ref 206), (1, .int a1), (2, .int a2)], [.int 0, .ref 266], rf_MM w m3)) (by decide +kernel) rfl trivial ?_
          obtain ⟨m4, hc4, hg⟩ := rf_bv_some hg
          refine rf_calls C rf_fit0 j_X14_turns__266 (As := [.ref 266, .int 0]) (rest := []) mw_X14_turns__266 (c_X14_turns__266 hc4) (by decide) lk_14_736 rfl rfl (Nat.le_of_ble_eq_true rfl) (by decide +kernel) ?_
          show rf_V 6 (rf_sh w) K 0 0 70 ([(3, .int y3), (0, .ref 206), (1, .int a1), (2, .int a2)], [], rf_MM w m4)
          refine rf_few [1, 2, 3, 0] rfl ?_
          exact s_X14_part_70 C hE a1 a2 y3 m4 hg
      · replace hg := (if_pos hc).symm.trans hg
        refine rf_seg C [(.iconst (-2147483648), 3)] (pc' := 32) (S' := ([(0, .ref 206), (1, .int a1), (2, .int a2)], [.int ((-2147483648))], rf_MM w m0)) (by decide +kernel) rfl trivial ?_
        obtain rfl := Option.some.inj hg
        exact rf_iret C hE (by decide +kernel)
-- X14_cost
abbrev j_X14_cost : rf_J := (14, yX14_cost, cX14_cost, 1, (some .long))
theorem mw_X14_cost : rf_mv j_X14_cost (rf_R 14) 0 := ⟨⟨rf_mem 74 (by decide +kernel), rf_mem 74 (by decide +kernel), rf_mem 0 (by decide +kernel), rf_mem 74 (by decide +kernel)⟩, by decide +kernel, by decide⟩
def g_X14_cost (w : rf_w) (m : rf_m) : Option (Int64 × rf_m) := some ((rf_i m 206 0 0).2 206 89, rf_i m 206 0 0)
theorem c_X14_cost {w : rf_w} {m : rf_m} {r : Int64 × rf_m} (hg : g_X14_cost w m = some r) : rf_Con j_X14_cost 1 (rf_sh w) [.ref 206] (rf_MM w m) (some (.long r.1)) (rf_MM w r.2) := by
  refine rf_con j_X14_cost 1 ⟨by decide +kernel, rfl, Nat.le_of_ble_eq_true rfl⟩ (fun K C hE => ?_)
  unfold g_X14_cost at hg
  show rf_V 1 (rf_sh w) K 0 0 0 ([(0, .ref 206)], [], rf_MM w m)
  refine rf_seg C [(.aload 0, 1), (.iconst 0, 1), (.multianewarray 14 0, 3), (.aload 0, 1), (.invokeinterface 14 89, 3)] (pc' := 9) (S' := ([(0, .ref 206)], [.long ((rf_i m 206 0 0).2 206 89)], rf_MM w (rf_i m 206 0 0))) (by decide +kernel) rfl trivial ?_
  obtain rfl := Option.some.inj hg
  exact rf_lret C hE (by decide +kernel)
-- X14_sineOf
abbrev j_X14_sineOf : rf_J := (14, yX14_sineOf, cX14_sineOf, 5, (some .int))
theorem mw_X14_sineOf : rf_ms j_X14_sineOf 1 := ⟨⟨rf_mem 75 (by decide +kernel), rf_mem 0 (by decide +kernel), rf_mem 75 (by decide +kernel)⟩, by decide +kernel, by decide⟩
def g_X14_sineOf (w : rf_w) (m : rf_m) (a0 : Int32) : Option (Int32 × rf_m) := rf_vl ((Int32.toInt64 (a0 / 10)) * (648000 - (Int32.toInt64 (a0 / 10)))) fun x0 => rf_g (rf_nzl (524880000000 - x0)) (some (Int64.toInt32 ((4000000 * x0) / (524880000000 - x0)), m))
theorem c_X14_sineOf {w : rf_w} {m : rf_m} {a0 : Int32} {r : Int32 × rf_m} (hg : g_X14_sineOf w m a0 = some r) : rf_Con j_X14_sineOf 1 (rf_sh w) [.int a0] (rf_MM w m) (some (.int r.1)) (rf_MM w r.2) := by
  refine rf_con j_X14_sineOf 1 ⟨by decide +kernel, rfl, Nat.le_of_ble_eq_true rfl⟩ (fun K C hE => ?_)
  unfold g_X14_sineOf at hg
  show rf_V 5 (rf_sh w) K 0 0 0 ([(0, .int a0)], [], rf_MM w m)
  refine rf_seg C [(.iload 0, 1), (.iconst 10, 2), (.idiv, 1), (.i2l, 1), (.lstore 1, 1), (.lload 1, 1), (.goto_w 648000, 3), (.lload 1, 1), (.lsub, 1), (.lmul, 1)] (pc' := 13) (S' := ([(1, .long (Int32.toInt64 (a0 / 10))), (0, .int a0)], [.long ((Int32.toInt64 (a0 / 10)) * (648000 - (Int32.toInt64 (a0 / 10))))], rf_MM w m)) (by decide +kernel) rfl (rf_nz_of (by decide)) ?_
  obtain ⟨x0, hx0, hg⟩ := rf_vl_some hg
  refine rf_vl_top hx0 ?_
  obtain ⟨q1, hg⟩ := rf_g_some hg
  refine rf_seg C [(.lstore 3, 1), (.goto_w 4000000, 3), (.lload 3, 1), (.lmul, 1), (.goto_w 524880000000, 3), (.lload 3, 1), (.lsub, 1), (.ldiv, 1), (.l2i, 1)] (pc' := 26) (S' := ([(3, .long x0), (1, .long (Int32.toInt64 (a0 / 10))), (0, .int a0)], [.int (Int64.toInt32 ((4000000 * x0) / (524880000000 - x0)))], rf_MM w m)) (by decide +kernel) rfl (rf_nzl_of q1) ?_
  obtain rfl := Option.some.inj hg
  exact rf_iret C hE (by decide +kernel)
-- X14_sine
abbrev j_X14_sine : rf_J := (14, yX14_sine, cX14_sine, 2, (some .int))
theorem mw_X14_sine : rf_mv j_X14_sine (rf_R 14) 1 := ⟨⟨rf_mem 75 (by decide +kernel), rf_mem 75 (by decide +kernel), rf_mem 0 (by decide +kernel), rf_mem 75 (by decide +kernel)⟩, by decide +kernel, by decide⟩
def g_X14_sine (w : rf_w) (m : rf_m) (a1 : Int32) : Option (Int32 × rf_m) := rf_b (g_X14_in w (rf_i m 206 0 0) a1 0 6480000) fun y0 m0 => (if y0 = 0 then some ((-1), m0) else rf_b (g_X14_sineOf w m0 a1) fun y1 m1 => some (y1, m1))
theorem c_X14_sine {w : rf_w} {m : rf_m} {a1 : Int32} {r : Int32 × rf_m} (hg : g_X14_sine w m a1 = some r) : rf_Con j_X14_sine 2 (rf_sh w) [.ref 206, .int a1] (rf_MM w m) (some (.int r.1)) (rf_MM w r.2) := by
  refine rf_con j_X14_sine 2 ⟨by decide +kernel, rfl, Nat.le_of_ble_eq_true rfl⟩ (fun K C hE => ?_)
  unfold g_X14_sine at hg
  show rf_V 2 (rf_sh w) K 0 0 0 ([(0, .ref 206), (1, .int a1)], [], rf_MM w m)
  refine rf_seg C [(.aload 0, 1), (.iconst 0, 1), (.multianewarray 14 0, 3), (.iload 1, 1), (.iconst 0, 1), (.iconst 6480000, 3)] (pc' := 10) (S' := ([(0, .ref 206), (1, .int a1)], [.int 6480000, .int 0, .int a1], rf_MM w (rf_i m 206 0 0))) (by decide +kernel) rfl trivial ?_
  obtain ⟨y0, m0, hc0, hg⟩ := rf_b_some hg
  refine rf_calls C rf_fit0 j_X14_in (As := [.int a1, .int 0, .int 6480000]) (rest := []) mw_X14_in (c_X14_in hc0) (by decide) lk_14_345 rfl rfl (Nat.le_of_ble_eq_true rfl) (by decide +kernel) ?_
  show rf_V 2 (rf_sh w) K 0 0 13 ([(0, .ref 206), (1, .int a1)], [.int y0], rf_MM w m0)
  refine rf_if_eq C 10 23 (by decide +kernel) (fun hc => ?_) (fun hc => ?_)
  · replace hg := (if_pos hc).symm.trans hg
    refine rf_seg C [(.iconst (-1), 1)] (pc' := 24) (S' := ([(0, .ref 206), (1, .int a1)], [.int ((-1))], rf_MM w m0)) (by decide +kernel) rfl trivial ?_
    obtain rfl := Option.some.inj hg
    exact rf_iret C hE (by decide +kernel)
  · replace hg := (if_neg hc).symm.trans hg
    refine rf_seg C [(.iload 1, 1)] (pc' := 17) (S' := ([(0, .ref 206), (1, .int a1)], [.int a1], rf_MM w m0)) (by decide +kernel) rfl trivial ?_
    obtain ⟨y1, m1, hc1, hg⟩ := rf_b_some hg
    refine rf_calls C rf_fit0 j_X14_sineOf (As := [.int a1]) (rest := []) mw_X14_sineOf (c_X14_sineOf hc1) (by decide) lk_14_803 rfl rfl (Nat.le_of_ble_eq_true rfl) (by decide +kernel) ?_
    show rf_V 2 (rf_sh w) K 0 0 20 ([(0, .ref 206), (1, .int a1)], [.int y1], rf_MM w m1)
    refine rf_goto C 4 24 (by decide +kernel) ?_
    obtain rfl := Option.some.inj hg
    exact rf_iret C hE (by decide +kernel)
-- X14_allSines
abbrev j_X14_allSines : rf_J := (14, yX14_allSines, cX14_allSines, 2, none)
theorem mw_X14_allSines : rf_mv j_X14_allSines (rf_R 14) 0 := ⟨⟨rf_mem 80 (by decide +kernel), rf_mem 80 (by decide +kernel), rf_mem 0 (by decide +kernel), rf_mem 80 (by decide +kernel)⟩, by decide +kernel, by decide⟩
def g_X14_allSines_146 (w : rf_w) (rec2 : Int32 → rf_m → Option (rf_m)) (a1 : Int32) (m : rf_m) : Option (rf_m) := rec2 (a1 + 1) m
def g_X14_allSines_145 (w : rf_w) (rec2 : Int32 → rf_m → Option (rf_m)) (a1 : Int32) (s1 : Int32) (s2 : Int32) (m : rf_m) : Option (rf_m) := rf_g (rf_in s1 80) (g_X14_allSines_146 w rec2 a1 (rf_i m 269 (Int32.toNatClampNeg s1) s2))
def g_X14_allSines_128 (w : rf_w) (rec2 : Int32 → rf_m → Option (rf_m)) (a1 : Int32) (s1 : Int32) (m : rf_m) : Option (rf_m) := rf_b (g_X14_sineOf w m (m.1 206 37)) fun y0 m0 => rf_b (g_X14_sineOf w m0 (m0.1 206 38)) fun y1 m1 => rf_b (g_max w m1 y0 y1) fun y2 m2 => g_X14_allSines_145 w rec2 a1 s1 y2 m2
def g_X14_allSines_52 (w : rf_w) (rec2 : Int32 → rf_m → Option (rf_m)) (a1 : Int32) (s1 : Int32) (s2 : Int32) (m : rf_m) : Option (rf_m) := rf_g (rf_in s1 80) (rf_g (rf_in a1 80) ((if ((rf_i m 270 (Int32.toNatClampNeg s1) (vp_nar .boolean s2)).1 270 (Int32.toNatClampNeg a1)) = 0 then g_X14_allSines_146 w rec2 a1 (rf_i m 270 (Int32.toNatClampNeg s1) (vp_nar .boolean s2)) else rf_b (g_X14_sineOf w (rf_i m 270 (Int32.toNatClampNeg s1) (vp_nar .boolean s2)) ((rf_i m 270 (Int32.toNatClampNeg s1) (vp_nar .boolean s2)).1 206 37)) fun y2 m2 => rf_b (g_X14_sineOf w m2 (m2.1 206 38)) fun y3 m3 => rf_b (g_min w m3 y2 y3) fun y4 m4 => rf_g (rf_in a1 80) ((if 324000 < (((rf_i m4 268 (Int32.toNatClampNeg a1) y4).1 206 37) / 10) then g_X14_allSines_128 w rec2 a1 a1 (rf_i m4 268 (Int32.toNatClampNeg a1) y4) else (if (((rf_i m4 268 (Int32.toNatClampNeg a1) y4).1 206 38) / 10) < 324000 then g_X14_allSines_128 w rec2 a1 a1 (rf_i m4 268 (Int32.toNatClampNeg a1) y4) else rf_b (g_X14_sineOf w (rf_i m4 268 (Int32.toNatClampNeg a1) y4) 3240000) fun y6 m6 => g_X14_allSines_145 w rec2 a1 a1 y6 m6))))))
def g_X14_allSines_51 (w : rf_w) (rec2 : Int32 → rf_m → Option (rf_m)) (a1 : Int32) (s1 : Int32) (m : rf_m) : Option (rf_m) := g_X14_allSines_52 w rec2 a1 s1 0 m
def g_X14_allSines_2_b (w : rf_w) (rec2 : Int32 → rf_m → Option (rf_m)) (a1 : Int32) (m : rf_m) : Option (rf_m) := (if (m.1 206 16) ≤ a1 then some m else rf_bv (g_X14_now w m a1) fun m0 => (if (m0.1 206 34) ≤ 0 then g_X14_allSines_51 w rec2 a1 a1 m0 else (if (m0.1 206 37) < 36000 then g_X14_allSines_51 w rec2 a1 a1 m0 else (if 6444000 < (m0.1 206 38) then g_X14_allSines_51 w rec2 a1 a1 m0 else g_X14_allSines_52 w rec2 a1 a1 1 m0))))
def g_X14_allSines_2 (w : rf_w) : Nat → Int32 → rf_m → Option (rf_m)
  | 0, _, _ => none
  | n + 1, a1, m => g_X14_allSines_2_b w (g_X14_allSines_2 w n) a1 m
def g_X14_allSines (w : rf_w) (m : rf_m) : Option (rf_m) := g_X14_allSines_2 w rf_fuel 0 m
theorem s_X14_allSines_146 {w : rf_w} {K : rf_K} {r : rf_m} (C : rf_Ctx 14 cX14_allSines 2 8 (rf_sh w) K) (hE : rf_End none K (rf_sh w) 0 0 none (rf_MM w r)) {rec2 : Int32 → rf_m → Option (rf_m)} (hr2 : ∀ (a1 : Int32) (m : rf_m), rec2 a1 m = some r → rf_V 2 (rf_sh w) K 0 0 2 ([(0, .ref 206), (1, .int a1)], [], rf_MM w m)) (a1 : Int32) (m : rf_m) (hg : g_X14_allSines_146 w rec2 a1 m = some r) : rf_V 2 (rf_sh w) K 0 0 146 ([(0, .ref 206), (1, .int a1)], [], rf_MM w m) := by
  unfold g_X14_allSines_146 at hg
  refine rf_seg C [(.iinc 1 1, 3)] (pc' := 149) (S' := ([(1, .int (a1 + 1)), (0, .ref 206)], [], rf_MM w m)) (by decide +kernel) rfl trivial ?_
  refine rf_goto C (-147) 2 (by decide +kernel) ?_
  refine rf_few [1, 0] rfl ?_
  exact hr2 (a1 + 1) m hg
theorem s_X14_allSines_145 {w : rf_w} {K : rf_K} {r : rf_m} (C : rf_Ctx 14 cX14_allSines 2 8 (rf_sh w) K) (hE : rf_End none K (rf_sh w) 0 0 none (rf_MM w r)) {rec2 : Int32 → rf_m → Option (rf_m)} (hr2 : ∀ (a1 : Int32) (m : rf_m), rec2 a1 m = some r → rf_V 2 (rf_sh w) K 0 0 2 ([(0, .ref 206), (1, .int a1)], [], rf_MM w m)) (a1 : Int32) (s1 : Int32) (s2 : Int32) (m : rf_m) (hg : g_X14_allSines_145 w rec2 a1 s1 s2 m = some r) : rf_V 2 (rf_sh w) K 0 0 145 ([(0, .ref 206), (1, .int a1)], [.int s2, .int s1, .ref 269], rf_MM w m) := by
  unfold g_X14_allSines_145 at hg
  obtain ⟨q0, hg⟩ := rf_g_some hg
  refine rf_seg C [(.iastore, 1)] (pc' := 146) (S' := ([(0, .ref 206), (1, .int a1)], [], rf_MM w (rf_i m 269 (Int32.toNatClampNeg s1) s2))) (by decide +kernel) rfl (rf_in_of q0) ?_
  refine rf_few [0, 1] rfl ?_
  exact s_X14_allSines_146 C hE hr2 a1 (rf_i m 269 (Int32.toNatClampNeg s1) s2) hg
theorem s_X14_allSines_128 {w : rf_w} {K : rf_K} {r : rf_m} (C : rf_Ctx 14 cX14_allSines 2 8 (rf_sh w) K) (hE : rf_End none K (rf_sh w) 0 0 none (rf_MM w r)) {rec2 : Int32 → rf_m → Option (rf_m)} (hr2 : ∀ (a1 : Int32) (m : rf_m), rec2 a1 m = some r → rf_V 2 (rf_sh w) K 0 0 2 ([(0, .ref 206), (1, .int a1)], [], rf_MM w m)) (a1 : Int32) (s1 : Int32) (m : rf_m) (hg : g_X14_allSines_128 w rec2 a1 s1 m = some r) : rf_V 2 (rf_sh w) K 0 0 128 ([(0, .ref 206), (1, .int a1)], [.int s1, .ref 269], rf_MM w m) := by
  unfold g_X14_allSines_128 at hg
  refine rf_seg C [(.aload 0, 1), (.invokeinterface 14 37, 3)] (pc' := 132) (S' := ([(0, .ref 206), (1, .int a1)], [.int (m.1 206 37), .int s1, .ref 269], rf_MM w m)) (by decide +kernel) rfl trivial ?_
  obtain ⟨y0, m0, hc0, hg⟩ := rf_b_some hg
  refine rf_calls C rf_fit0 j_X14_sineOf (As := [.int (m.1 206 37)]) (rest := [.int s1, .ref 269]) mw_X14_sineOf (c_X14_sineOf hc0) (by decide) lk_14_803 rfl rfl (Nat.le_of_ble_eq_true rfl) (by decide +kernel) ?_
  show rf_V 2 (rf_sh w) K 0 0 135 ([(0, .ref 206), (1, .int a1)], [.int y0, .int s1, .ref 269], rf_MM w m0)
  refine rf_seg C [(.aload 0, 1), (.invokeinterface 14 38, 3)] (pc' := 139) (S' := ([(0, .ref 206), (1, .int a1)], [.int (m0.1 206 38), .int y0, .int s1, .ref 269], rf_MM w m0)) (by decide +kernel) rfl trivial ?_
  obtain ⟨y1, m1, hc1, hg⟩ := rf_b_some hg
  refine rf_calls C rf_fit0 j_X14_sineOf (As := [.int (m0.1 206 38)]) (rest := [.int y0, .int s1, .ref 269]) mw_X14_sineOf (c_X14_sineOf hc1) (by decide) lk_14_803 rfl rfl (Nat.le_of_ble_eq_true rfl) (by decide +kernel) ?_
  show rf_V 2 (rf_sh w) K 0 0 142 ([(0, .ref 206), (1, .int a1)], [.int y1, .int y0, .int s1, .ref 269], rf_MM w m1)
  obtain ⟨y2, m2, hc2, hg⟩ := rf_b_some hg
  refine rf_calls C rf_fit0 j_max (As := [.int y0, .int y1]) (rest := [.int s1, .ref 269]) mw_max (c_max hc2) (by decide) lk_14_375 rfl rfl (Nat.le_of_ble_eq_true rfl) (by decide +kernel) ?_
  show rf_V 2 (rf_sh w) K 0 0 145 ([(0, .ref 206), (1, .int a1)], [.int y2, .int s1, .ref 269], rf_MM w m2)
  refine rf_few [0, 1] rfl ?_
  exact s_X14_allSines_145 C hE hr2 a1 s1 y2 m2 hg
theorem s_X14_allSines_52 {w : rf_w} {K : rf_K} {r : rf_m} (C : rf_Ctx 14 cX14_allSines 2 8 (rf_sh w) K) (hE : rf_End none K (rf_sh w) 0 0 none (rf_MM w r)) {rec2 : Int32 → rf_m → Option (rf_m)} (hr2 : ∀ (a1 : Int32) (m : rf_m), rec2 a1 m = some r → rf_V 2 (rf_sh w) K 0 0 2 ([(0, .ref 206), (1, .int a1)], [], rf_MM w m)) (a1 : Int32) (s1 : Int32) (s2 : Int32) (m : rf_m) (hg : g_X14_allSines_52 w rec2 a1 s1 s2 m = some r) : rf_V 2 (rf_sh w) K 0 0 52 ([(0, .ref 206), (1, .int a1)], [.int s2, .int s1, .ref 270], rf_MM w m) := by
  unfold g_X14_allSines_52 at hg
  obtain ⟨q0, hg⟩ := rf_g_some hg
  obtain ⟨q1, hg⟩ := rf_g_some hg
  refine rf_seg C [(.bastore, 1), (.aload 0, 1), (.invokeinterface 14 95, 3), (.iload 1, 1), (.baload, 1)] (pc' := 59) (S' := ([(0, .ref 206), (1, .int a1)], [.int ((rf_i m 270 (Int32.toNatClampNeg s1) (vp_nar .boolean s2)).1 270 (Int32.toNatClampNeg a1))], rf_MM w (rf_i m 270 (Int32.toNatClampNeg s1) (vp_nar .boolean s2)))) (by decide +kernel) rfl (by exact ⟨(rf_in_of q0), (rf_in_of q1)⟩) ?_
  refine rf_if_ne C 6 65 (by decide +kernel) (fun hc => ?_) (fun hc => ?_)
  · replace hg := (if_neg hc).symm.trans hg
    refine rf_seg C [(.aload 0, 1), (.invokeinterface 14 93, 3), (.iload 1, 1), (.aload 0, 1), (.invokeinterface 14 37, 3)] (pc' := 74) (S' := ([(0, .ref 206), (1, .int a1)], [.int ((rf_i m 270 (Int32.toNatClampNeg s1) (vp_nar .boolean s2)).1 206 37), .int a1, .ref 268], rf_MM w (rf_i m 270 (Int32.toNatClampNeg s1) (vp_nar .boolean s2)))) (by decide +kernel) rfl trivial ?_
    obtain ⟨y2, m2, hc2, hg⟩ := rf_b_some hg
    refine rf_calls C rf_fit0 j_X14_sineOf (As := [.int ((rf_i m 270 (Int32.toNatClampNeg s1) (vp_nar .boolean s2)).1 206 37)]) (rest := [.int a1, .ref 268]) mw_X14_sineOf (c_X14_sineOf hc2) (by decide) lk_14_803 rfl rfl (Nat.le_of_ble_eq_true rfl) (by decide +kernel) ?_
    show rf_V 2 (rf_sh w) K 0 0 77 ([(0, .ref 206), (1, .int a1)], [.int y2, .int a1, .ref 268], rf_MM w m2)
    refine rf_seg C [(.aload 0, 1), (.invokeinterface 14 38, 3)] (pc' := 81) (S' := ([(0, .ref 206), (1, .int a1)], [.int (m2.1 206 38), .int y2, .int a1, .ref 268], rf_MM w m2)) (by decide +kernel) rfl trivial ?_
    obtain ⟨y3, m3, hc3, hg⟩ := rf_b_some hg
    refine rf_calls C rf_fit0 j_X14_sineOf (As := [.int (m2.1 206 38)]) (rest := [.int y2, .int a1, .ref 268]) mw_X14_sineOf (c_X14_sineOf hc3) (by decide) lk_14_803 rfl rfl (Nat.le_of_ble_eq_true rfl) (by decide +kernel) ?_
    show rf_V 2 (rf_sh w) K 0 0 84 ([(0, .ref 206), (1, .int a1)], [.int y3, .int y2, .int a1, .ref 268], rf_MM w m3)
    obtain ⟨y4, m4, hc4, hg⟩ := rf_b_some hg
    refine rf_calls C rf_fit0 j_min (As := [.int y2, .int y3]) (rest := [.int a1, .ref 268]) mw_min (c_min hc4) (by decide) lk_14_443 rfl rfl (Nat.le_of_ble_eq_true rfl) (by decide +kernel) ?_
    show rf_V 2 (rf_sh w) K 0 0 87 ([(0, .ref 206), (1, .int a1)], [.int y4, .int a1, .ref 268], rf_MM w m4)
    obtain ⟨q5, hg⟩ := rf_g_some hg
    refine rf_seg C [(.iastore, 1), (.aload 0, 1), (.invokeinterface 14 94, 3), (.iload 1, 1), (.aload 0, 1), (.invokeinterface 14 37, 3), (.iconst 10, 2), (.idiv, 1), (.iconst 324000, 3)] (pc' := 103) (S' := ([(0, .ref 206), (1, .int a1)], [.int 324000, .int (((rf_i m4 268 (Int32.toNatClampNeg a1) y4).1 206 37) / 10), .int a1, .ref 269], rf_MM w (rf_i m4 268 (Int32.toNatClampNeg a1) y4))) (by decide +kernel) rfl (by exact ⟨(rf_in_of q5), (rf_nz_of (by decide))⟩) ?_
    refine rf_icmp_gt C 25 128 (by decide +kernel) (fun hc => ?_) (fun hc => ?_)
    · replace hg := (if_pos hc).symm.trans hg
      refine rf_few [0, 1] rfl ?_
      exact s_X14_allSines_128 C hE hr2 a1 a1 (rf_i m4 268 (Int32.toNatClampNeg a1) y4) hg
    · replace hg := (if_neg hc).symm.trans hg
      refine rf_seg C [(.aload 0, 1), (.invokeinterface 14 38, 3), (.iconst 10, 2), (.idiv, 1), (.iconst 324000, 3)] (pc' := 116) (S' := ([(0, .ref 206), (1, .int a1)], [.int 324000, .int (((rf_i m4 268 (Int32.toNatClampNeg a1) y4).1 206 38) / 10), .int a1, .ref 269], rf_MM w (rf_i m4 268 (Int32.toNatClampNeg a1) y4))) (by decide +kernel) rfl (rf_nz_of (by decide)) ?_
      refine rf_icmp_lt C 12 128 (by decide +kernel) (fun hc => ?_) (fun hc => ?_)
      · replace hg := (if_pos hc).symm.trans hg
        refine rf_few [0, 1] rfl ?_
        exact s_X14_allSines_128 C hE hr2 a1 a1 (rf_i m4 268 (Int32.toNatClampNeg a1) y4) hg
      · replace hg := (if_neg hc).symm.trans hg
        refine rf_seg C [(.iconst 3240000, 3)] (pc' := 122) (S' := ([(0, .ref 206), (1, .int a1)], [.int 3240000, .int a1, .ref 269], rf_MM w (rf_i m4 268 (Int32.toNatClampNeg a1) y4))) (by decide +kernel) rfl trivial ?_
        obtain ⟨y6, m6, hc6, hg⟩ := rf_b_some hg
        refine rf_calls C rf_fit0 j_X14_sineOf (As := [.int 3240000]) (rest := [.int a1, .ref 269]) mw_X14_sineOf (c_X14_sineOf hc6) (by decide) lk_14_803 rfl rfl (Nat.le_of_ble_eq_true rfl) (by decide +kernel) ?_
        show rf_V 2 (rf_sh w) K 0 0 125 ([(0, .ref 206), (1, .int a1)], [.int y6, .int a1, .ref 269], rf_MM w m6)
        refine rf_goto C 20 145 (by decide +kernel) ?_
        refine rf_few [0, 1] rfl ?_
        exact s_X14_allSines_145 C hE hr2 a1 a1 y6 m6 hg
  · replace hg := (if_pos hc).symm.trans hg
    refine rf_goto C 84 146 (by decide +kernel) ?_
    refine rf_few [0, 1] rfl ?_
    exact s_X14_allSines_146 C hE hr2 a1 (rf_i m 270 (Int32.toNatClampNeg s1) (vp_nar .boolean s2)) hg
theorem s_X14_allSines_51 {w : rf_w} {K : rf_K} {r : rf_m} (C : rf_Ctx 14 cX14_allSines 2 8 (rf_sh w) K) (hE : rf_End none K (rf_sh w) 0 0 none (rf_MM w r)) {rec2 : Int32 → rf_m → Option (rf_m)} (hr2 : ∀ (a1 : Int32) (m : rf_m), rec2 a1 m = some r → rf_V 2 (rf_sh w) K 0 0 2 ([(0, .ref 206), (1, .int a1)], [], rf_MM w m)) (a1 : Int32) (s1 : Int32) (m : rf_m) (hg : g_X14_allSines_51 w rec2 a1 s1 m = some r) : rf_V 2 (rf_sh w) K 0 0 51 ([(0, .ref 206), (1, .int a1)], [.int s1, .ref 270], rf_MM w m) := by
  unfold g_X14_allSines_51 at hg
  refine rf_seg C [(.iconst 0, 1)] (pc' := 52) (S' := ([(0, .ref 206), (1, .int a1)], [.int 0, .int s1, .ref 270], rf_MM w m)) (by decide +kernel) rfl trivial ?_
  refine rf_few [0, 1] rfl ?_
  exact s_X14_allSines_52 C hE hr2 a1 s1 0 m hg
theorem s_X14_allSines_2_b {w : rf_w} {K : rf_K} {r : rf_m} (C : rf_Ctx 14 cX14_allSines 2 8 (rf_sh w) K) (hE : rf_End none K (rf_sh w) 0 0 none (rf_MM w r)) {rec2 : Int32 → rf_m → Option (rf_m)} (hr2 : ∀ (a1 : Int32) (m : rf_m), rec2 a1 m = some r → rf_V 2 (rf_sh w) K 0 0 2 ([(0, .ref 206), (1, .int a1)], [], rf_MM w m)) (a1 : Int32) (m : rf_m) (hg : g_X14_allSines_2_b w rec2 a1 m = some r) : rf_V 2 (rf_sh w) K 0 0 2 ([(0, .ref 206), (1, .int a1)], [], rf_MM w m) := by
  unfold g_X14_allSines_2_b at hg
  refine rf_seg C [(.iload 1, 1), (.aload 0, 1), (.invokeinterface 14 16, 3)] (pc' := 7) (S' := ([(0, .ref 206), (1, .int a1)], [.int (m.1 206 16), .int a1], rf_MM w m)) (by decide +kernel) rfl trivial ?_
  refine rf_icmp_ge C 145 152 (by decide +kernel) (fun hc => ?_) (fun hc => ?_)
  · replace hg := (if_pos hc).symm.trans hg
    obtain rfl := Option.some.inj hg
    exact rf_vret C hE (by decide +kernel)
  · replace hg := (if_neg hc).symm.trans hg
    refine rf_seg C [(.aload 0, 1), (.iload 1, 1)] (pc' := 12) (S' := ([(0, .ref 206), (1, .int a1)], [.int a1, .ref 206], rf_MM w m)) (by decide +kernel) rfl trivial ?_
    obtain ⟨m0, hc0, hg⟩ := rf_bv_some hg
    refine rf_callv C rf_fit0 j_X14_now (ci := 14) (As := [.int a1]) (rest := []) mw_X14_now (c_X14_now hc0) (by decide) rfl (by decide) lk_14_469 rfl rfl (Nat.le_of_ble_eq_true rfl) (by decide +kernel) ?_
    show rf_V 2 (rf_sh w) K 0 0 15 ([(0, .ref 206), (1, .int a1)], [], rf_MM w m0)
    refine rf_seg C [(.aload 0, 1), (.invokeinterface 14 95, 3), (.iload 1, 1), (.aload 0, 1), (.invokeinterface 14 34, 3)] (pc' := 24) (S' := ([(0, .ref 206), (1, .int a1)], [.int (m0.1 206 34), .int a1, .ref 270], rf_MM w m0)) (by decide +kernel) rfl trivial ?_
    refine rf_if_le C 27 51 (by decide +kernel) (fun hc => ?_) (fun hc => ?_)
    · replace hg := (if_pos hc).symm.trans hg
      refine rf_few [0, 1] rfl ?_
      exact s_X14_allSines_51 C hE hr2 a1 a1 m0 hg
    · replace hg := (if_neg hc).symm.trans hg
      refine rf_seg C [(.aload 0, 1), (.invokeinterface 14 37, 3), (.iconst 36000, 3)] (pc' := 34) (S' := ([(0, .ref 206), (1, .int a1)], [.int 36000, .int (m0.1 206 37), .int a1, .ref 270], rf_MM w m0)) (by decide +kernel) rfl trivial ?_
      refine rf_icmp_lt C 17 51 (by decide +kernel) (fun hc => ?_) (fun hc => ?_)
      · replace hg := (if_pos hc).symm.trans hg
        refine rf_few [0, 1] rfl ?_
        exact s_X14_allSines_51 C hE hr2 a1 a1 m0 hg
      · replace hg := (if_neg hc).symm.trans hg
        refine rf_seg C [(.aload 0, 1), (.invokeinterface 14 38, 3), (.iconst 6444000, 3)] (pc' := 44) (S' := ([(0, .ref 206), (1, .int a1)], [.int 6444000, .int (m0.1 206 38), .int a1, .ref 270], rf_MM w m0)) (by decide +kernel) rfl trivial ?_
        refine rf_icmp_gt C 7 51 (by decide +kernel) (fun hc => ?_) (fun hc => ?_)
        · replace hg := (if_pos hc).symm.trans hg
          refine rf_few [0, 1] rfl ?_
          exact s_X14_allSines_51 C hE hr2 a1 a1 m0 hg
        · replace hg := (if_neg hc).symm.trans hg
          refine rf_seg C [(.iconst 1, 1)] (pc' := 48) (S' := ([(0, .ref 206), (1, .int a1)], [.int 1, .int a1, .ref 270], rf_MM w m0)) (by decide +kernel) rfl trivial ?_
          refine rf_goto C 4 52 (by decide +kernel) ?_
          refine rf_few [0, 1] rfl ?_
          exact s_X14_allSines_52 C hE hr2 a1 a1 1 m0 hg
theorem s_X14_allSines_2 {w : rf_w} {K : rf_K} {r : rf_m} (C : rf_Ctx 14 cX14_allSines 2 8 (rf_sh w) K) (hE : rf_End none K (rf_sh w) 0 0 none (rf_MM w r)) (n : Nat) : ∀ (a1 : Int32) (m : rf_m), g_X14_allSines_2 w n a1 m = some r → rf_V 2 (rf_sh w) K 0 0 2 ([(0, .ref 206), (1, .int a1)], [], rf_MM w m) := by
  induction n with
  | zero => intro a1 m hg; cases hg
  | succ n ih => intro a1 m hg; exact s_X14_allSines_2_b C hE ih a1 m hg
theorem c_X14_allSines {w : rf_w} {m : rf_m} {r : rf_m} (hg : g_X14_allSines w m = some r) : rf_Con j_X14_allSines 8 (rf_sh w) [.ref 206] (rf_MM w m) none (rf_MM w r) := by
  refine rf_con j_X14_allSines 8 ⟨by decide +kernel, rfl, Nat.le_of_ble_eq_true rfl⟩ (fun K C hE => ?_)
  unfold g_X14_allSines at hg
  show rf_V 2 (rf_sh w) K 0 0 0 ([(0, .ref 206)], [], rf_MM w m)
  refine rf_seg C [(.iconst 0, 1), (.istore 1, 1)] (pc' := 2) (S' := ([(1, .int 0), (0, .ref 206)], [], rf_MM w m)) (by decide +kernel) rfl trivial ?_
  refine rf_few [1, 0] rfl ?_
  exact s_X14_allSines_2 C hE rf_fuel 0 m hg
-- X14_carries
abbrev j_X14_carries : rf_J := (14, yX14_carries, cX14_carries, 2, (some .boolean))
theorem mw_X14_carries : rf_mv j_X14_carries (rf_R 14) 1 := ⟨⟨rf_mem 80 (by decide +kernel), rf_mem 80 (by decide +kernel), rf_mem 0 (by decide +kernel), rf_mem 80 (by decide +kernel)⟩, by decide +kernel, by decide⟩
def g_X14_carries (w : rf_w) (m : rf_m) (a1 : Int32) : Option (Int32 × rf_m) := rf_g (rf_in (3 * a1) 90) (rf_g (rf_in (m.1 243 (Int32.toNatClampNeg (3 * a1))) 80) ((if (m.1 270 (Int32.toNatClampNeg (m.1 243 (Int32.toNatClampNeg (3 * a1))))) = 0 then some (0, m) else rf_g (rf_in ((3 * a1) + 1) 90) (rf_g (rf_in (m.1 243 (Int32.toNatClampNeg ((3 * a1) + 1))) 80) ((if (m.1 270 (Int32.toNatClampNeg (m.1 243 (Int32.toNatClampNeg ((3 * a1) + 1))))) = 0 then some (0, m) else rf_g (rf_in ((3 * a1) + 2) 90) (rf_g (rf_in (m.1 243 (Int32.toNatClampNeg ((3 * a1) + 2))) 80) ((if (m.1 270 (Int32.toNatClampNeg (m.1 243 (Int32.toNatClampNeg ((3 * a1) + 2))))) = 0 then some (0, m) else some (1, m))))))))))
theorem c_X14_carries {w : rf_w} {m : rf_m} {a1 : Int32} {r : Int32 × rf_m} (hg : g_X14_carries w m a1 = some r) : rf_Con j_X14_carries 1 (rf_sh w) [.ref 206, .int a1] (rf_MM w m) (some (.int r.1)) (rf_MM w r.2) := by
  refine rf_con j_X14_carries 1 ⟨by decide +kernel, rfl, Nat.le_of_ble_eq_true rfl⟩ (fun K C hE => ?_)
  unfold g_X14_carries at hg
  show rf_V 2 (rf_sh w) K 0 0 0 ([(0, .ref 206), (1, .int a1)], [], rf_MM w m)
  obtain ⟨q0, hg⟩ := rf_g_some hg
  obtain ⟨q1, hg⟩ := rf_g_some hg
  refine rf_seg C [(.aload 0, 1), (.invokeinterface 14 95, 3), (.aload 0, 1), (.invokeinterface 14 66, 3), (.iconst 3, 1), (.iload 1, 1), (.imul, 1), (.iaload, 1), (.baload, 1)] (pc' := 13) (S' := ([(0, .ref 206), (1, .int a1)], [.int (m.1 270 (Int32.toNatClampNeg (m.1 243 (Int32.toNatClampNeg (3 * a1)))))], rf_MM w m)) (by decide +kernel) rfl (by exact ⟨(rf_in_of q0), (rf_in_of q1)⟩) ?_
  refine rf_if_eq C 43 56 (by decide +kernel) (fun hc => ?_) (fun hc => ?_)
  · replace hg := (if_pos hc).symm.trans hg
    refine rf_seg C [(.iconst 0, 1)] (pc' := 57) (S' := ([(0, .ref 206), (1, .int a1)], [.int 0], rf_MM w m)) (by decide +kernel) rfl trivial ?_
    obtain rfl := Option.some.inj hg
    exact rf_zret C hE (by decide) (by decide +kernel)
  · replace hg := (if_neg hc).symm.trans hg
    obtain ⟨q2, hg⟩ := rf_g_some hg
    obtain ⟨q3, hg⟩ := rf_g_some hg
    refine rf_seg C [(.aload 0, 1), (.invokeinterface 14 95, 3), (.aload 0, 1), (.invokeinterface 14 66, 3), (.iconst 3, 1), (.iload 1, 1), (.imul, 1), (.iconst 1, 1), (.iadd, 1), (.iaload, 1), (.baload, 1)] (pc' := 31) (S' := ([(0, .ref 206), (1, .int a1)], [.int (m.1 270 (Int32.toNatClampNeg (m.1 243 (Int32.toNatClampNeg ((3 * a1) + 1)))))], rf_MM w m)) (by decide +kernel) rfl (by exact ⟨(rf_in_of q2), (rf_in_of q3)⟩) ?_
    refine rf_if_eq C 25 56 (by decide +kernel) (fun hc => ?_) (fun hc => ?_)
    · replace hg := (if_pos hc).symm.trans hg
      refine rf_seg C [(.iconst 0, 1)] (pc' := 57) (S' := ([(0, .ref 206), (1, .int a1)], [.int 0], rf_MM w m)) (by decide +kernel) rfl trivial ?_
      obtain rfl := Option.some.inj hg
      exact rf_zret C hE (by decide) (by decide +kernel)
    · replace hg := (if_neg hc).symm.trans hg
      obtain ⟨q4, hg⟩ := rf_g_some hg
      obtain ⟨q5, hg⟩ := rf_g_some hg
      refine rf_seg C [(.aload 0, 1), (.invokeinterface 14 95, 3), (.aload 0, 1), (.invokeinterface 14 66, 3), (.iconst 3, 1), (.iload 1, 1), (.imul, 1), (.iconst 2, 1), (.iadd, 1), (.iaload, 1), (.baload, 1)] (pc' := 49) (S' := ([(0, .ref 206), (1, .int a1)], [.int (m.1 270 (Int32.toNatClampNeg (m.1 243 (Int32.toNatClampNeg ((3 * a1) + 2)))))], rf_MM w m)) (by decide +kernel) rfl (by exact ⟨(rf_in_of q4), (rf_in_of q5)⟩) ?_
      refine rf_if_eq C 7 56 (by decide +kernel) (fun hc => ?_) (fun hc => ?_)
      · replace hg := (if_pos hc).symm.trans hg
        refine rf_seg C [(.iconst 0, 1)] (pc' := 57) (S' := ([(0, .ref 206), (1, .int a1)], [.int 0], rf_MM w m)) (by decide +kernel) rfl trivial ?_
        obtain rfl := Option.some.inj hg
        exact rf_zret C hE (by decide) (by decide +kernel)
      · replace hg := (if_neg hc).symm.trans hg
        refine rf_seg C [(.iconst 1, 1)] (pc' := 53) (S' := ([(0, .ref 206), (1, .int a1)], [.int 1], rf_MM w m)) (by decide +kernel) rfl trivial ?_
        refine rf_goto C 4 57 (by decide +kernel) ?_
        obtain rfl := Option.some.inj hg
        exact rf_zret C hE (by decide) (by decide +kernel)
-- X14_opposite
abbrev j_X14_opposite : rf_J := (14, yX14_opposite, cX14_opposite, 6, (some .int))
theorem mw_X14_opposite : rf_mv j_X14_opposite (rf_R 14) 3 := ⟨⟨rf_mem 81 (by decide +kernel), rf_mem 81 (by decide +kernel), rf_mem 0 (by decide +kernel), rf_mem 81 (by decide +kernel)⟩, by decide +kernel, by decide⟩
def g_X14_opposite_3_b (w : rf_w) (rec3 : Int32 → Int32 → Int32 → Int32 → rf_m → Option (Int32 × rf_m)) (a1 : Int32) (a2 : Int32) (a3 : Int32) (a4 : Int32) (m : rf_m) : Option (Int32 × rf_m) := (if 3 ≤ a4 then some ((-1), m) else rf_g (rf_in ((3 * a1) + a4) 90) (rf_vi (m.1 243 (Int32.toNatClampNeg ((3 * a1) + a4))) fun x1 => rf_b (g_X14_isBetween w m x1 a2 a3) fun y2 m2 => (if y2 = 0 then rec3 a1 a2 a3 (a4 + 1) m2 else some (a4, m2))))
def g_X14_opposite_3 (w : rf_w) : Nat → Int32 → Int32 → Int32 → Int32 → rf_m → Option (Int32 × rf_m)
  | 0, _, _, _, _, _ => none
  | n + 1, a1, a2, a3, a4, m => g_X14_opposite_3_b w (g_X14_opposite_3 w n) a1 a2 a3 a4 m
def g_X14_opposite (w : rf_w) (m : rf_m) (a1 : Int32) (a2 : Int32) (a3 : Int32) : Option (Int32 × rf_m) := g_X14_opposite_3 w rf_fuel a1 a2 a3 0 m
theorem s_X14_opposite_3_b {w : rf_w} {K : rf_K} {r : Int32 × rf_m} (C : rf_Ctx 14 cX14_opposite 6 2 (rf_sh w) K) (hE : rf_End (some .int) K (rf_sh w) 0 0 (some (.int r.1)) (rf_MM w r.2)) {rec3 : Int32 → Int32 → Int32 → Int32 → rf_m → Option (Int32 × rf_m)} (hr3 : ∀ (a1 : Int32) (a2 : Int32) (a3 : Int32) (a4 : Int32) (m : rf_m), rec3 a1 a2 a3 a4 m = some r → rf_V 6 (rf_sh w) K 0 0 3 ([(0, .ref 206), (1, .int a1), (2, .int a2), (3, .int a3), (4, .int a4)], [], rf_MM w m)) (a1 : Int32) (a2 : Int32) (a3 : Int32) (a4 : Int32) (m : rf_m) (hg : g_X14_opposite_3_b w rec3 a1 a2 a3 a4 m = some r) : rf_V 6 (rf_sh w) K 0 0 3 ([(0, .ref 206), (1, .int a1), (2, .int a2), (3, .int a3), (4, .int a4)], [], rf_MM w m) := by
  unfold g_X14_opposite_3_b at hg
  refine rf_seg C [(.iload 4, 2), (.iconst 3, 1)] (pc' := 6) (S' := ([(0, .ref 206), (1, .int a1), (2, .int a2), (3, .int a3), (4, .int a4)], [.int 3, .int a4], rf_MM w m)) (by decide +kernel) rfl trivial ?_
  refine rf_icmp_ge C 36 42 (by decide +kernel) (fun hc => ?_) (fun hc => ?_)
  · replace hg := (if_pos hc).symm.trans hg
    refine rf_seg C [(.iconst (-1), 1)] (pc' := 43) (S' := ([(0, .ref 206), (1, .int a1), (2, .int a2), (3, .int a3), (4, .int a4)], [.int ((-1))], rf_MM w m)) (by decide +kernel) rfl trivial ?_
    obtain rfl := Option.some.inj hg
    exact rf_iret C hE (by decide +kernel)
  · replace hg := (if_neg hc).symm.trans hg
    obtain ⟨q0, hg⟩ := rf_g_some hg
    refine rf_seg C [(.aload 0, 1), (.invokeinterface 14 66, 3), (.iconst 3, 1), (.iload 1, 1), (.imul, 1), (.iload 4, 2), (.iadd, 1), (.iaload, 1)] (pc' := 20) (S' := ([(0, .ref 206), (1, .int a1), (2, .int a2), (3, .int a3), (4, .int a4)], [.int (m.1 243 (Int32.toNatClampNeg ((3 * a1) + a4)))], rf_MM w m)) (by decide +kernel) rfl (rf_in_of q0) ?_
    obtain ⟨x1, hx1, hg⟩ := rf_vi_some hg
    refine rf_vi_top hx1 ?_
    refine rf_seg C [(.istore 5, 2), (.aload 0, 1), (.iload 5, 2), (.iload 2, 1), (.iload 3, 1)] (pc' := 27) (S' := ([(5, .int x1), (0, .ref 206), (1, .int a1), (2, .int a2), (3, .int a3), (4, .int a4)], [.int a3, .int a2, .int x1, .ref 206], rf_MM w m)) (by decide +kernel) rfl trivial ?_
    obtain ⟨y2, m2, hc2, hg⟩ := rf_b_some hg
    refine rf_callv C rf_fit0 j_X14_isBetween (ci := 14) (As := [.int x1, .int a2, .int a3]) (rest := []) mw_X14_isBetween (c_X14_isBetween hc2) (by decide) rfl (by decide) lk_14_692 rfl rfl (Nat.le_of_ble_eq_true rfl) (by decide +kernel) ?_
    show rf_V 6 (rf_sh w) K 0 0 30 ([(5, .int x1), (0, .ref 206), (1, .int a1), (2, .int a2), (3, .int a3), (4, .int a4)], [.int y2], rf_MM w m2)
    refine rf_if_eq C 6 36 (by decide +kernel) (fun hc => ?_) (fun hc => ?_)
    · replace hg := (if_pos hc).symm.trans hg
      refine rf_seg C [(.iinc 4 1, 3)] (pc' := 39) (S' := ([(4, .int (a4 + 1)), (5, .int x1), (0, .ref 206), (1, .int a1), (2, .int a2), (3, .int a3)], [], rf_MM w m2)) (by decide +kernel) rfl trivial ?_
      refine rf_goto C (-36) 3 (by decide +kernel) ?_
      refine rf_few [2, 3, 4, 5, 0] rfl ?_
      exact hr3 a1 a2 a3 (a4 + 1) m2 hg
    · replace hg := (if_neg hc).symm.trans hg
      refine rf_seg C [(.iload 4, 2)] (pc' := 35) (S' := ([(5, .int x1), (0, .ref 206), (1, .int a1), (2, .int a2), (3, .int a3), (4, .int a4)], [.int a4], rf_MM w m2)) (by decide +kernel) rfl trivial ?_
      obtain rfl := Option.some.inj hg
      exact rf_iret C hE (by decide +kernel)
theorem s_X14_opposite_3 {w : rf_w} {K : rf_K} {r : Int32 × rf_m} (C : rf_Ctx 14 cX14_opposite 6 2 (rf_sh w) K) (hE : rf_End (some .int) K (rf_sh w) 0 0 (some (.int r.1)) (rf_MM w r.2)) (n : Nat) : ∀ (a1 : Int32) (a2 : Int32) (a3 : Int32) (a4 : Int32) (m : rf_m), g_X14_opposite_3 w n a1 a2 a3 a4 m = some r → rf_V 6 (rf_sh w) K 0 0 3 ([(0, .ref 206), (1, .int a1), (2, .int a2), (3, .int a3), (4, .int a4)], [], rf_MM w m) := by
  induction n with
  | zero => intro a1 a2 a3 a4 m hg; cases hg
  | succ n ih => intro a1 a2 a3 a4 m hg; exact s_X14_opposite_3_b C hE ih a1 a2 a3 a4 m hg
theorem c_X14_opposite {w : rf_w} {m : rf_m} {a1 : Int32} {a2 : Int32} {a3 : Int32} {r : Int32 × rf_m} (hg : g_X14_opposite w m a1 a2 a3 = some r) : rf_Con j_X14_opposite 2 (rf_sh w) [.ref 206, .int a1, .int a2, .int a3] (rf_MM w m) (some (.int r.1)) (rf_MM w r.2) := by
  refine rf_con j_X14_opposite 2 ⟨by decide +kernel, rfl, Nat.le_of_ble_eq_true rfl⟩ (fun K C hE => ?_)
  unfold g_X14_opposite at hg
  show rf_V 6 (rf_sh w) K 0 0 0 ([(0, .ref 206), (1, .int a1), (2, .int a2), (3, .int a3)], [], rf_MM w m)
  refine rf_seg C [(.iconst 0, 1), (.istore 4, 2)] (pc' := 3) (S' := ([(4, .int 0), (0, .ref 206), (1, .int a1), (2, .int a2), (3, .int a3)], [], rf_MM w m)) (by decide +kernel) rfl trivial ?_
  refine rf_few [1, 2, 3, 4, 0] rfl ?_
  exact s_X14_opposite_3 C hE rf_fuel a1 a2 a3 0 m hg
-- X14_isBetter
abbrev j_X14_isBetter : rf_J := (14, yX14_isBetter, cX14_isBetter, 5, (some .boolean))
theorem mw_X14_isBetter : rf_mv j_X14_isBetter (rf_R 14) 3 := ⟨⟨rf_mem 80 (by decide +kernel), rf_mem 80 (by decide +kernel), rf_mem 0 (by decide +kernel), rf_mem 80 (by decide +kernel)⟩, by decide +kernel, by decide⟩
def g_X14_isBetter_23 (w : rf_w) (a2 : Int32) (a3 : Int32) (m : rf_m) : Option (Int32 × rf_m) := (if (m.1 206 105) = ((-1)) then some (1, m) else (if ((m.1 206 107) - (m.1 206 106)) ≤ (a3 - a2) then some (0, m) else some (1, m)))
def g_X14_isBetter_132_b (w : rf_w) (rec132 : Int32 → Int32 → rf_m → Option (Int32 × rf_m)) (a1 : Int32) (a4 : Int32) (m : rf_m) : Option (Int32 × rf_m) := (if a1 ≤ a4 then some (0, m) else rf_g (rf_in a4 6) (rf_g (rf_in a4 6) ((if (m.1 273 (Int32.toNatClampNeg a4)) = (m.1 276 (Int32.toNatClampNeg a4)) then rf_g (rf_in a4 6) (rf_g (rf_in a4 6) ((if (m.1 274 (Int32.toNatClampNeg a4)) = (m.1 277 (Int32.toNatClampNeg a4)) then rec132 a1 (a4 + 1) m else rf_g (rf_in a4 6) (rf_g (rf_in a4 6) ((if (m.1 277 (Int32.toNatClampNeg a4)) ≤ (m.1 274 (Int32.toNatClampNeg a4)) then some (0, m) else some (1, m))))))) else rf_g (rf_in a4 6) (rf_g (rf_in a4 6) ((if (m.1 276 (Int32.toNatClampNeg a4)) ≤ (m.1 273 (Int32.toNatClampNeg a4)) then some (0, m) else some (1, m))))))))
def g_X14_isBetter_132 (w : rf_w) : Nat → Int32 → Int32 → rf_m → Option (Int32 × rf_m)
  | 0, _, _, _ => none
  | n + 1, a1, a4, m => g_X14_isBetter_132_b w (g_X14_isBetter_132 w n) a1 a4 m
def g_X14_isBetter_77_b (w : rf_w) (rec77 : Int32 → Int32 → rf_m → Option (Int32 × rf_m)) (a1 : Int32) (a4 : Int32) (m : rf_m) : Option (Int32 × rf_m) := (if a1 ≤ a4 then g_X14_isBetter_132 w rf_fuel a1 0 m else rf_g (rf_in a4 6) (rf_g (rf_in a4 6) ((if (m.1 272 (Int32.toNatClampNeg a4)) = (m.1 275 (Int32.toNatClampNeg a4)) then rec77 a1 (a4 + 1) m else rf_g (rf_in a4 6) (rf_g (rf_in a4 6) ((if (m.1 275 (Int32.toNatClampNeg a4)) ≤ (m.1 272 (Int32.toNatClampNeg a4)) then some (0, m) else some (1, m))))))))
def g_X14_isBetter_77 (w : rf_w) : Nat → Int32 → Int32 → rf_m → Option (Int32 × rf_m)
  | 0, _, _, _ => none
  | n + 1, a1, a4, m => g_X14_isBetter_77_b w (g_X14_isBetter_77 w n) a1 a4 m
def g_X14_isBetter (w : rf_w) (m : rf_m) (a1 : Int32) (a2 : Int32) (a3 : Int32) : Option (Int32 × rf_m) := (if (m.1 206 105) = ((-1)) then g_X14_isBetter_23 w a2 a3 m else (if (a3 - a2) = ((m.1 206 107) - (m.1 206 106)) then (if a1 = (m.1 206 105) then g_X14_isBetter_77 w rf_fuel a1 0 m else (if (m.1 206 105) ≤ a1 then some (0, m) else some (1, m))) else g_X14_isBetter_23 w a2 a3 m))
theorem s_X14_isBetter_23 {w : rf_w} {K : rf_K} {r : Int32 × rf_m} (C : rf_Ctx 14 cX14_isBetter 5 1 (rf_sh w) K) (hE : rf_End (some .boolean) K (rf_sh w) 0 0 (some (.int r.1)) (rf_MM w r.2)) (a2 : Int32) (a3 : Int32) (m : rf_m) (hg : g_X14_isBetter_23 w a2 a3 m = some r) : rf_V 5 (rf_sh w) K 0 0 23 ([(0, .ref 206), (2, .int a2), (3, .int a3)], [], rf_MM w m) := by
  unfold g_X14_isBetter_23 at hg
  refine rf_seg C [(.aload 0, 1), (.invokeinterface 14 105, 3), (.iconst (-1), 1)] (pc' := 28) (S' := ([(0, .ref 206), (2, .int a2), (3, .int a3)], [.int ((-1)), .int (m.1 206 105)], rf_MM w m)) (by decide +kernel) rfl trivial ?_
  refine rf_icmp_eq C 18 46 (by decide +kernel) (fun hc => ?_) (fun hc => ?_)
  · replace hg := (if_pos hc).symm.trans hg
    refine rf_seg C [(.iconst 1, 1)] (pc' := 47) (S' := ([(0, .ref 206), (2, .int a2), (3, .int a3)], [.int 1], rf_MM w m)) (by decide +kernel) rfl trivial ?_
    refine rf_goto C 4 51 (by decide +kernel) ?_
    obtain rfl := Option.some.inj hg
    exact rf_zret C hE (by decide) (by decide +kernel)
  · replace hg := (if_neg hc).symm.trans hg
    refine rf_seg C [(.iload 3, 1), (.iload 2, 1), (.isub, 1), (.aload 0, 1), (.invokeinterface 14 107, 3), (.aload 0, 1), (.invokeinterface 14 106, 3), (.isub, 1)] (pc' := 43) (S' := ([(0, .ref 206), (2, .int a2), (3, .int a3)], [.int ((m.1 206 107) - (m.1 206 106)), .int (a3 - a2)], rf_MM w m)) (by decide +kernel) rfl trivial ?_
    refine rf_icmp_ge C 7 50 (by decide +kernel) (fun hc => ?_) (fun hc => ?_)
    · replace hg := (if_pos hc).symm.trans hg
      refine rf_seg C [(.iconst 0, 1)] (pc' := 51) (S' := ([(0, .ref 206), (2, .int a2), (3, .int a3)], [.int 0], rf_MM w m)) (by decide +kernel) rfl trivial ?_
      obtain rfl := Option.some.inj hg
      exact rf_zret C hE (by decide) (by decide +kernel)
    · replace hg := (if_neg hc).symm.trans hg
      refine rf_seg C [(.iconst 1, 1)] (pc' := 47) (S' := ([(0, .ref 206), (2, .int a2), (3, .int a3)], [.int 1], rf_MM w m)) (by decide +kernel) rfl trivial ?_
      refine rf_goto C 4 51 (by decide +kernel) ?_
      obtain rfl := Option.some.inj hg
      exact rf_zret C hE (by decide) (by decide +kernel)
theorem s_X14_isBetter_132_b {w : rf_w} {K : rf_K} {r : Int32 × rf_m} (C : rf_Ctx 14 cX14_isBetter 5 1 (rf_sh w) K) (hE : rf_End (some .boolean) K (rf_sh w) 0 0 (some (.int r.1)) (rf_MM w r.2)) {rec132 : Int32 → Int32 → rf_m → Option (Int32 × rf_m)} (hr132 : ∀ (a1 : Int32) (a4 : Int32) (m : rf_m), rec132 a1 a4 m = some r → rf_V 5 (rf_sh w) K 0 0 132 ([(0, .ref 206), (1, .int a1), (4, .int a4)], [], rf_MM w m)) (a1 : Int32) (a4 : Int32) (m : rf_m) (hg : g_X14_isBetter_132_b w rec132 a1 a4 m = some r) : rf_V 5 (rf_sh w) K 0 0 132 ([(0, .ref 206), (1, .int a1), (4, .int a4)], [], rf_MM w m) := by
  unfold g_X14_isBetter_132_b at hg
  refine rf_seg C [(.iload 4, 2), (.iload 1, 1)] (pc' := 135) (S' := ([(0, .ref 206), (1, .int a1), (4, .int a4)], [.int a1, .int a4], rf_MM w m)) (by decide +kernel) rfl trivial ?_
  refine rf_icmp_ge C 89 224 (by decide +kernel) (fun hc => ?_) (fun hc => ?_)
  · replace hg := (if_pos hc).symm.trans hg
    refine rf_seg C [(.iconst 0, 1)] (pc' := 225) (S' := ([(0, .ref 206), (1, .int a1), (4, .int a4)], [.int 0], rf_MM w m)) (by decide +kernel) rfl trivial ?_
    obtain rfl := Option.some.inj hg
    exact rf_zret C hE (by decide) (by decide +kernel)
  · replace hg := (if_neg hc).symm.trans hg
    obtain ⟨q0, hg⟩ := rf_g_some hg
    obtain ⟨q1, hg⟩ := rf_g_some hg
    refine rf_seg C [(.aload 0, 1), (.invokeinterface 14 98, 3), (.iload 4, 2), (.iaload, 1), (.aload 0, 1), (.invokeinterface 14 101, 3), (.iload 4, 2), (.iaload, 1)] (pc' := 152) (S' := ([(0, .ref 206), (1, .int a1), (4, .int a4)], [.int (m.1 276 (Int32.toNatClampNeg a4)), .int (m.1 273 (Int32.toNatClampNeg a4))], rf_MM w m)) (by decide +kernel) rfl (by exact ⟨(rf_in_of q0), (rf_in_of q1)⟩) ?_
    refine rf_icmp_eq C 26 178 (by decide +kernel) (fun hc => ?_) (fun hc => ?_)
    · replace hg := (if_pos hc).symm.trans hg
      obtain ⟨q2, hg⟩ := rf_g_some hg
      obtain ⟨q3, hg⟩ := rf_g_some hg
      refine rf_seg C [(.aload 0, 1), (.invokeinterface 14 99, 3), (.iload 4, 2), (.iaload, 1), (.aload 0, 1), (.invokeinterface 14 102, 3), (.iload 4, 2), (.iaload, 1)] (pc' := 192) (S' := ([(0, .ref 206), (1, .int a1), (4, .int a4)], [.int (m.1 277 (Int32.toNatClampNeg a4)), .int (m.1 274 (Int32.toNatClampNeg a4))], rf_MM w m)) (by decide +kernel) rfl (by exact ⟨(rf_in_of q2), (rf_in_of q3)⟩) ?_
      refine rf_icmp_eq C 26 218 (by decide +kernel) (fun hc => ?_) (fun hc => ?_)
      · replace hg := (if_pos hc).symm.trans hg
        refine rf_seg C [(.iinc 4 1, 3)] (pc' := 221) (S' := ([(4, .int (a4 + 1)), (0, .ref 206), (1, .int a1)], [], rf_MM w m)) (by decide +kernel) rfl trivial ?_
        refine rf_goto C (-89) 132 (by decide +kernel) ?_
        refine rf_few [1, 2, 0] rfl ?_
        exact hr132 a1 (a4 + 1) m hg
      · replace hg := (if_neg hc).symm.trans hg
        obtain ⟨q4, hg⟩ := rf_g_some hg
        obtain ⟨q5, hg⟩ := rf_g_some hg
        refine rf_seg C [(.aload 0, 1), (.invokeinterface 14 99, 3), (.iload 4, 2), (.iaload, 1), (.aload 0, 1), (.invokeinterface 14 102, 3), (.iload 4, 2), (.iaload, 1)] (pc' := 209) (S' := ([(0, .ref 206), (1, .int a1), (4, .int a4)], [.int (m.1 277 (Int32.toNatClampNeg a4)), .int (m.1 274 (Int32.toNatClampNeg a4))], rf_MM w m)) (by decide +kernel) rfl (by exact ⟨(rf_in_of q4), (rf_in_of q5)⟩) ?_
        refine rf_icmp_ge C 7 216 (by decide +kernel) (fun hc => ?_) (fun hc => ?_)
        · replace hg := (if_pos hc).symm.trans hg
          refine rf_seg C [(.iconst 0, 1)] (pc' := 217) (S' := ([(0, .ref 206), (1, .int a1), (4, .int a4)], [.int 0], rf_MM w m)) (by decide +kernel) rfl trivial ?_
          obtain rfl := Option.some.inj hg
          exact rf_zret C hE (by decide) (by decide +kernel)
        · replace hg := (if_neg hc).symm.trans hg
          refine rf_seg C [(.iconst 1, 1)] (pc' := 213) (S' := ([(0, .ref 206), (1, .int a1), (4, .int a4)], [.int 1], rf_MM w m)) (by decide +kernel) rfl trivial ?_
          refine rf_goto C 4 217 (by decide +kernel) ?_
          obtain rfl := Option.some.inj hg
          exact rf_zret C hE (by decide) (by decide +kernel)
    · replace hg := (if_neg hc).symm.trans hg
      obtain ⟨q6, hg⟩ := rf_g_some hg
      obtain ⟨q7, hg⟩ := rf_g_some hg
      refine rf_seg C [(.aload 0, 1), (.invokeinterface 14 98, 3), (.iload 4, 2), (.iaload, 1), (.aload 0, 1), (.invokeinterface 14 101, 3), (.iload 4, 2), (.iaload, 1)] (pc' := 169) (S' := ([(0, .ref 206), (1, .int a1), (4, .int a4)], [.int (m.1 276 (Int32.toNatClampNeg a4)), .int (m.1 273 (Int32.toNatClampNeg a4))], rf_MM w m)) (by decide +kernel) rfl (by exact ⟨(rf_in_of q6), (rf_in_of q7)⟩) ?_
      refine rf_icmp_ge C 7 176 (by decide +kernel) (fun hc => ?_) (fun hc => ?_)
      · replace hg := (if_pos hc).symm.trans hg
        refine rf_seg C [(.iconst 0, 1)] (pc' := 177) (S' := ([(0, .ref 206), (1, .int a1), (4, .int a4)], [.int 0], rf_MM w m)) (by decide +kernel) rfl trivial ?_
        obtain rfl := Option.some.inj hg
        exact rf_zret C hE (by decide) (by decide +kernel)
      · replace hg := (if_neg hc).symm.trans hg
        refine rf_seg C [(.iconst 1, 1)] (pc' := 173) (S' := ([(0, .ref 206), (1, .int a1), (4, .int a4)], [.int 1], rf_MM w m)) (by decide +kernel) rfl trivial ?_
        refine rf_goto C 4 177 (by decide +kernel) ?_
        obtain rfl := Option.some.inj hg
        exact rf_zret C hE (by decide) (by decide +kernel)
theorem s_X14_isBetter_132 {w : rf_w} {K : rf_K} {r : Int32 × rf_m} (C : rf_Ctx 14 cX14_isBetter 5 1 (rf_sh w) K) (hE : rf_End (some .boolean) K (rf_sh w) 0 0 (some (.int r.1)) (rf_MM w r.2)) (n : Nat) : ∀ (a1 : Int32) (a4 : Int32) (m : rf_m), g_X14_isBetter_132 w n a1 a4 m = some r → rf_V 5 (rf_sh w) K 0 0 132 ([(0, .ref 206), (1, .int a1), (4, .int a4)], [], rf_MM w m) := by
  induction n with
  | zero => intro a1 a4 m hg; cases hg
  | succ n ih => intro a1 a4 m hg; exact s_X14_isBetter_132_b C hE ih a1 a4 m hg
theorem s_X14_isBetter_77_b {w : rf_w} {K : rf_K} {r : Int32 × rf_m} (C : rf_Ctx 14 cX14_isBetter 5 1 (rf_sh w) K) (hE : rf_End (some .boolean) K (rf_sh w) 0 0 (some (.int r.1)) (rf_MM w r.2)) {rec77 : Int32 → Int32 → rf_m → Option (Int32 × rf_m)} (hr77 : ∀ (a1 : Int32) (a4 : Int32) (m : rf_m), rec77 a1 a4 m = some r → rf_V 5 (rf_sh w) K 0 0 77 ([(0, .ref 206), (1, .int a1), (4, .int a4)], [], rf_MM w m)) (a1 : Int32) (a4 : Int32) (m : rf_m) (hg : g_X14_isBetter_77_b w rec77 a1 a4 m = some r) : rf_V 5 (rf_sh w) K 0 0 77 ([(0, .ref 206), (1, .int a1), (4, .int a4)], [], rf_MM w m) := by
  unfold g_X14_isBetter_77_b at hg
  refine rf_seg C [(.iload 4, 2), (.iload 1, 1)] (pc' := 80) (S' := ([(0, .ref 206), (1, .int a1), (4, .int a4)], [.int a1, .int a4], rf_MM w m)) (by decide +kernel) rfl trivial ?_
  refine rf_icmp_ge C 49 129 (by decide +kernel) (fun hc => ?_) (fun hc => ?_)
  · replace hg := (if_pos hc).symm.trans hg
    refine rf_seg C [(.iconst 0, 1), (.istore 4, 2)] (pc' := 132) (S' := ([(4, .int 0), (0, .ref 206), (1, .int a1)], [], rf_MM w m)) (by decide +kernel) rfl trivial ?_
    refine rf_few [1, 2, 0] rfl ?_
    exact s_X14_isBetter_132 C hE rf_fuel a1 0 m hg
  · replace hg := (if_neg hc).symm.trans hg
    obtain ⟨q0, hg⟩ := rf_g_some hg
    obtain ⟨q1, hg⟩ := rf_g_some hg
    refine rf_seg C [(.aload 0, 1), (.invokeinterface 14 97, 3), (.iload 4, 2), (.iaload, 1), (.aload 0, 1), (.invokeinterface 14 100, 3), (.iload 4, 2), (.iaload, 1)] (pc' := 97) (S' := ([(0, .ref 206), (1, .int a1), (4, .int a4)], [.int (m.1 275 (Int32.toNatClampNeg a4)), .int (m.1 272 (Int32.toNatClampNeg a4))], rf_MM w m)) (by decide +kernel) rfl (by exact ⟨(rf_in_of q0), (rf_in_of q1)⟩) ?_
    refine rf_icmp_eq C 26 123 (by decide +kernel) (fun hc => ?_) (fun hc => ?_)
    · replace hg := (if_pos hc).symm.trans hg
      refine rf_seg C [(.iinc 4 1, 3)] (pc' := 126) (S' := ([(4, .int (a4 + 1)), (0, .ref 206), (1, .int a1)], [], rf_MM w m)) (by decide +kernel) rfl trivial ?_
      refine rf_goto C (-49) 77 (by decide +kernel) ?_
      refine rf_few [1, 2, 0] rfl ?_
      exact hr77 a1 (a4 + 1) m hg
    · replace hg := (if_neg hc).symm.trans hg
      obtain ⟨q2, hg⟩ := rf_g_some hg
      obtain ⟨q3, hg⟩ := rf_g_some hg
      refine rf_seg C [(.aload 0, 1), (.invokeinterface 14 97, 3), (.iload 4, 2), (.iaload, 1), (.aload 0, 1), (.invokeinterface 14 100, 3), (.iload 4, 2), (.iaload, 1)] (pc' := 114) (S' := ([(0, .ref 206), (1, .int a1), (4, .int a4)], [.int (m.1 275 (Int32.toNatClampNeg a4)), .int (m.1 272 (Int32.toNatClampNeg a4))], rf_MM w m)) (by decide +kernel) rfl (by exact ⟨(rf_in_of q2), (rf_in_of q3)⟩) ?_
      refine rf_icmp_ge C 7 121 (by decide +kernel) (fun hc => ?_) (fun hc => ?_)
      · replace hg := (if_pos hc).symm.trans hg
        refine rf_seg C [(.iconst 0, 1)] (pc' := 122) (S' := ([(0, .ref 206), (1, .int a1), (4, .int a4)], [.int 0], rf_MM w m)) (by decide +kernel) rfl trivial ?_
        obtain rfl := Option.some.inj hg
        exact rf_zret C hE (by decide) (by decide +kernel)
      · replace hg := (if_neg hc).symm.trans hg
        refine rf_seg C [(.iconst 1, 1)] (pc' := 118) (S' := ([(0, .ref 206), (1, .int a1), (4, .int a4)], [.int 1], rf_MM w m)) (by decide +kernel) rfl trivial ?_
        refine rf_goto C 4 122 (by decide +kernel) ?_
        obtain rfl := Option.some.inj hg
        exact rf_zret C hE (by decide) (by decide +kernel)
theorem s_X14_isBetter_77 {w : rf_w} {K : rf_K} {r : Int32 × rf_m} (C : rf_Ctx 14 cX14_isBetter 5 1 (rf_sh w) K) (hE : rf_End (some .boolean) K (rf_sh w) 0 0 (some (.int r.1)) (rf_MM w r.2)) (n : Nat) : ∀ (a1 : Int32) (a4 : Int32) (m : rf_m), g_X14_isBetter_77 w n a1 a4 m = some r → rf_V 5 (rf_sh w) K 0 0 77 ([(0, .ref 206), (1, .int a1), (4, .int a4)], [], rf_MM w m) := by
  induction n with
  | zero => intro a1 a4 m hg; cases hg
  | succ n ih => intro a1 a4 m hg; exact s_X14_isBetter_77_b C hE ih a1 a4 m hg
theorem c_X14_isBetter {w : rf_w} {m : rf_m} {a1 : Int32} {a2 : Int32} {a3 : Int32} {r : Int32 × rf_m} (hg : g_X14_isBetter w m a1 a2 a3 = some r) : rf_Con j_X14_isBetter 1 (rf_sh w) [.ref 206, .int a1, .int a2, .int a3] (rf_MM w m) (some (.int r.1)) (rf_MM w r.2) := by
  refine rf_con j_X14_isBetter 1 ⟨by decide +kernel, rfl, Nat.le_of_ble_eq_true rfl⟩ (fun K C hE => ?_)
  unfold g_X14_isBetter at hg
  show rf_V 5 (rf_sh w) K 0 0 0 ([(0, .ref 206), (1, .int a1), (2, .int a2), (3, .int a3)], [], rf_MM w m)
  refine rf_seg C [(.aload 0, 1), (.invokeinterface 14 105, 3), (.iconst (-1), 1)] (pc' := 5) (S' := ([(0, .ref 206), (1, .int a1), (2, .int a2), (3, .int a3)], [.int ((-1)), .int (m.1 206 105)], rf_MM w m)) (by decide +kernel) rfl trivial ?_
  refine rf_icmp_eq C 18 23 (by decide +kernel) (fun hc => ?_) (fun hc => ?_)
  · replace hg := (if_pos hc).symm.trans hg
    refine rf_few [0, 2, 3] rfl ?_
    exact s_X14_isBetter_23 C hE a2 a3 m hg
  · replace hg := (if_neg hc).symm.trans hg
    refine rf_seg C [(.iload 3, 1), (.iload 2, 1), (.isub, 1), (.aload 0, 1), (.invokeinterface 14 107, 3), (.aload 0, 1), (.invokeinterface 14 106, 3), (.isub, 1)] (pc' := 20) (S' := ([(0, .ref 206), (1, .int a1), (2, .int a2), (3, .int a3)], [.int ((m.1 206 107) - (m.1 206 106)), .int (a3 - a2)], rf_MM w m)) (by decide +kernel) rfl trivial ?_
    refine rf_icmp_eq C 32 52 (by decide +kernel) (fun hc => ?_) (fun hc => ?_)
    · replace hg := (if_pos hc).symm.trans hg
      refine rf_seg C [(.iload 1, 1), (.aload 0, 1), (.invokeinterface 14 105, 3)] (pc' := 57) (S' := ([(0, .ref 206), (1, .int a1), (2, .int a2), (3, .int a3)], [.int (m.1 206 105), .int a1], rf_MM w m)) (by decide +kernel) rfl trivial ?_
      refine rf_icmp_eq C 17 74 (by decide +kernel) (fun hc => ?_) (fun hc => ?_)
      · replace hg := (if_pos hc).symm.trans hg
        refine rf_seg C [(.iconst 0, 1), (.istore 4, 2)] (pc' := 77) (S' := ([(4, .int 0), (0, .ref 206), (1, .int a1), (2, .int a2), (3, .int a3)], [], rf_MM w m)) (by decide +kernel) rfl trivial ?_
        refine rf_few [1, 2, 0] rfl ?_
        exact s_X14_isBetter_77 C hE rf_fuel a1 0 m hg
      · replace hg := (if_neg hc).symm.trans hg
        refine rf_seg C [(.iload 1, 1), (.aload 0, 1), (.invokeinterface 14 105, 3)] (pc' := 65) (S' := ([(0, .ref 206), (1, .int a1), (2, .int a2), (3, .int a3)], [.int (m.1 206 105), .int a1], rf_MM w m)) (by decide +kernel) rfl trivial ?_
        refine rf_icmp_ge C 7 72 (by decide +kernel) (fun hc => ?_) (fun hc => ?_)
        · replace hg := (if_pos hc).symm.trans hg
          refine rf_seg C [(.iconst 0, 1)] (pc' := 73) (S' := ([(0, .ref 206), (1, .int a1), (2, .int a2), (3, .int a3)], [.int 0], rf_MM w m)) (by decide +kernel) rfl trivial ?_
          obtain rfl := Option.some.inj hg
          exact rf_zret C hE (by decide) (by decide +kernel)
        · replace hg := (if_neg hc).symm.trans hg
          refine rf_seg C [(.iconst 1, 1)] (pc' := 69) (S' := ([(0, .ref 206), (1, .int a1), (2, .int a2), (3, .int a3)], [.int 1], rf_MM w m)) (by decide +kernel) rfl trivial ?_
          refine rf_goto C 4 73 (by decide +kernel) ?_
          obtain rfl := Option.some.inj hg
          exact rf_zret C hE (by decide) (by decide +kernel)
    · replace hg := (if_neg hc).symm.trans hg
      refine rf_few [0, 2, 3] rfl ?_
      exact s_X14_isBetter_23 C hE a2 a3 m hg
-- X14_link
abbrev j_X14_link : rf_J := (14, yX14_link, cX14_link, 2, (some .int))
theorem mw_X14_link : rf_mv j_X14_link (rf_R 14) 1 := ⟨⟨rf_mem 81 (by decide +kernel), rf_mem 81 (by decide +kernel), rf_mem 0 (by decide +kernel), rf_mem 81 (by decide +kernel)⟩, by decide +kernel, by decide⟩
def g_X14_link (w : rf_w) (m : rf_m) (a1 : Int32) : Option (Int32 × rf_m) := (if a1 < 0 then some ((-1), rf_i m 206 0 0) else (if ((rf_i m 206 0 0).1 206 110) ≤ a1 then some ((-1), rf_i m 206 0 0) else rf_g (rf_in a1 6) (some ((rf_i m 206 0 0).1 278 (Int32.toNatClampNeg a1), rf_i m 206 0 0))))
theorem c_X14_link {w : rf_w} {m : rf_m} {a1 : Int32} {r : Int32 × rf_m} (hg : g_X14_link w m a1 = some r) : rf_Con j_X14_link 1 (rf_sh w) [.ref 206, .int a1] (rf_MM w m) (some (.int r.1)) (rf_MM w r.2) := by
  refine rf_con j_X14_link 1 ⟨by decide +kernel, rfl, Nat.le_of_ble_eq_true rfl⟩ (fun K C hE => ?_)
  unfold g_X14_link at hg
  show rf_V 2 (rf_sh w) K 0 0 0 ([(0, .ref 206), (1, .int a1)], [], rf_MM w m)
  refine rf_seg C [(.aload 0, 1), (.iconst 0, 1), (.multianewarray 14 0, 3), (.iload 1, 1)] (pc' := 6) (S' := ([(0, .ref 206), (1, .int a1)], [.int a1], rf_MM w (rf_i m 206 0 0))) (by decide +kernel) rfl trivial ?_
  refine rf_if_lt C 20 26 (by decide +kernel) (fun hc => ?_) (fun hc => ?_)
  · replace hg := (if_pos hc).symm.trans hg
    refine rf_seg C [(.iconst (-1), 1)] (pc' := 27) (S' := ([(0, .ref 206), (1, .int a1)], [.int ((-1))], rf_MM w (rf_i m 206 0 0))) (by decide +kernel) rfl trivial ?_
    obtain rfl := Option.some.inj hg
    exact rf_iret C hE (by decide +kernel)
  · replace hg := (if_neg hc).symm.trans hg
    refine rf_seg C [(.iload 1, 1), (.aload 0, 1), (.invokeinterface 14 110, 3)] (pc' := 14) (S' := ([(0, .ref 206), (1, .int a1)], [.int ((rf_i m 206 0 0).1 206 110), .int a1], rf_MM w (rf_i m 206 0 0))) (by decide +kernel) rfl trivial ?_
    refine rf_icmp_ge C 12 26 (by decide +kernel) (fun hc => ?_) (fun hc => ?_)
    · replace hg := (if_pos hc).symm.trans hg
      refine rf_seg C [(.iconst (-1), 1)] (pc' := 27) (S' := ([(0, .ref 206), (1, .int a1)], [.int ((-1))], rf_MM w (rf_i m 206 0 0))) (by decide +kernel) rfl trivial ?_
      obtain rfl := Option.some.inj hg
      exact rf_iret C hE (by decide +kernel)
    · replace hg := (if_neg hc).symm.trans hg
      obtain ⟨q0, hg⟩ := rf_g_some hg
      refine rf_seg C [(.aload 0, 1), (.invokeinterface 14 103, 3), (.iload 1, 1), (.iaload, 1)] (pc' := 23) (S' := ([(0, .ref 206), (1, .int a1)], [.int ((rf_i m 206 0 0).1 278 (Int32.toNatClampNeg a1))], rf_MM w (rf_i m 206 0 0))) (by decide +kernel) rfl (rf_in_of q0) ?_
      refine rf_goto C 4 27 (by decide +kernel) ?_
      obtain rfl := Option.some.inj hg
      exact rf_iret C hE (by decide +kernel)
-- X14_side
abbrev j_X14_side : rf_J := (14, yX14_side, cX14_side, 2, (some .int))
theorem mw_X14_side : rf_mv j_X14_side (rf_R 14) 1 := ⟨⟨rf_mem 81 (by decide +kernel), rf_mem 81 (by decide +kernel), rf_mem 0 (by decide +kernel), rf_mem 81 (by decide +kernel)⟩, by decide +kernel, by decide⟩
def g_X14_side (w : rf_w) (m : rf_m) (a1 : Int32) : Option (Int32 × rf_m) := (if ((rf_i m 206 0 0).1 206 110) = ((-1)) then some ((-1), rf_i m 206 0 0) else (if a1 = 0 then some ((rf_i m 206 0 0).1 206 111, rf_i m 206 0 0) else some ((rf_i m 206 0 0).1 206 112, rf_i m 206 0 0)))
theorem c_X14_side {w : rf_w} {m : rf_m} {a1 : Int32} {r : Int32 × rf_m} (hg : g_X14_side w m a1 = some r) : rf_Con j_X14_side 1 (rf_sh w) [.ref 206, .int a1] (rf_MM w m) (some (.int r.1)) (rf_MM w r.2) := by
  refine rf_con j_X14_side 1 ⟨by decide +kernel, rfl, Nat.le_of_ble_eq_true rfl⟩ (fun K C hE => ?_)
  unfold g_X14_side at hg
  show rf_V 2 (rf_sh w) K 0 0 0 ([(0, .ref 206), (1, .int a1)], [], rf_MM w m)
  refine rf_seg C [(.aload 0, 1), (.iconst 0, 1), (.multianewarray 14 0, 3), (.aload 0, 1), (.invokeinterface 14 110, 3), (.iconst (-1), 1)] (pc' := 10) (S' := ([(0, .ref 206), (1, .int a1)], [.int ((-1)), .int ((rf_i m 206 0 0).1 206 110)], rf_MM w (rf_i m 206 0 0))) (by decide +kernel) rfl trivial ?_
  refine rf_icmp_ne C 7 17 (by decide +kernel) (fun hc => ?_) (fun hc => ?_)
  · replace hg := (if_neg hc).symm.trans hg
    refine rf_seg C [(.iload 1, 1)] (pc' := 18) (S' := ([(0, .ref 206), (1, .int a1)], [.int a1], rf_MM w (rf_i m 206 0 0))) (by decide +kernel) rfl trivial ?_
    refine rf_if_eq C 10 28 (by decide +kernel) (fun hc => ?_) (fun hc => ?_)
    · replace hg := (if_pos hc).symm.trans hg
      refine rf_seg C [(.aload 0, 1), (.invokeinterface 14 111, 3)] (pc' := 32) (S' := ([(0, .ref 206), (1, .int a1)], [.int ((rf_i m 206 0 0).1 206 111)], rf_MM w (rf_i m 206 0 0))) (by decide +kernel) rfl trivial ?_
      obtain rfl := Option.some.inj hg
      exact rf_iret C hE (by decide +kernel)
    · replace hg := (if_neg hc).symm.trans hg
      refine rf_seg C [(.aload 0, 1), (.invokeinterface 14 112, 3)] (pc' := 25) (S' := ([(0, .ref 206), (1, .int a1)], [.int ((rf_i m 206 0 0).1 206 112)], rf_MM w (rf_i m 206 0 0))) (by decide +kernel) rfl trivial ?_
      refine rf_goto C 7 32 (by decide +kernel) ?_
      obtain rfl := Option.some.inj hg
      exact rf_iret C hE (by decide +kernel)
  · replace hg := (if_pos hc).symm.trans hg
    refine rf_seg C [(.iconst (-1), 1)] (pc' := 14) (S' := ([(0, .ref 206), (1, .int a1)], [.int ((-1))], rf_MM w (rf_i m 206 0 0))) (by decide +kernel) rfl trivial ?_
    refine rf_goto C 18 32 (by decide +kernel) ?_
    obtain rfl := Option.some.inj hg
    exact rf_iret C hE (by decide +kernel)
