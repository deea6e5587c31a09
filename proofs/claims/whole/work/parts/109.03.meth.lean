/-! methods as functions, and their contracts (written by wip/tool/gen.py) -/
-- X14_copies__251_266
abbrev j_X14_copies__251_266 : rf_J := (14, yX14_copies, cX14_copies, 5, none)
theorem mw_X14_copies__251_266 : rf_ms j_X14_copies__251_266 4 := ⟨⟨rf_mem 71 (by decide +kernel), rf_mem 0 (by decide +kernel), rf_mem 71 (by decide +kernel)⟩, by decide +kernel, by decide⟩
def g_X14_copies__251_266_3_b (w : rf_w) (rec3 : Int32 → Int32 → Int32 → rf_m → Option (rf_m)) (a1 : Int32) (a3 : Int32) (a4 : Int32) (m : rf_m) : Option (rf_m) := (if 6 ≤ a4 then some m else rf_g (rf_in (a3 + a4) 6) (rf_g (rf_in (a1 + a4) 6) (rec3 a1 a3 (a4 + 1) (rf_i m 251 (Int32.toNatClampNeg (a1 + a4)) (m.1 266 (Int32.toNatClampNeg (a3 + a4)))))))
def g_X14_copies__251_266_3 (w : rf_w) : Nat → Int32 → Int32 → Int32 → rf_m → Option (rf_m)
  | 0, _, _, _, _ => none
  | n + 1, a1, a3, a4, m => g_X14_copies__251_266_3_b w (g_X14_copies__251_266_3 w n) a1 a3 a4 m
def g_X14_copies__251_266 (w : rf_w) (m : rf_m) (a1 : Int32) (a3 : Int32) : Option (rf_m) := g_X14_copies__251_266_3 w rf_fuel a1 a3 0 m
theorem s_X14_copies__251_266_3_b {w : rf_w} {K : rf_K} {r : rf_m} (C : rf_Ctx 14 cX14_copies 5 1 (rf_sh w) K) (hE : rf_End none K (rf_sh w) 0 0 none (rf_MM w r)) {rec3 : Int32 → Int32 → Int32 → rf_m → Option (rf_m)} (hr3 : ∀ (a1 : Int32) (a3 : Int32) (a4 : Int32) (m : rf_m), rec3 a1 a3 a4 m = some r → rf_V 5 (rf_sh w) K 0 0 3 ([(0, .ref 251), (1, .int a1), (2, .ref 266), (3, .int a3), (4, .int a4)], [], rf_MM w m)) (a1 : Int32) (a3 : Int32) (a4 : Int32) (m : rf_m) (hg : g_X14_copies__251_266_3_b w rec3 a1 a3 a4 m = some r) : rf_V 5 (rf_sh w) K 0 0 3 ([(0, .ref 251), (1, .int a1), (2, .ref 266), (3, .int a3), (4, .int a4)], [], rf_MM w m) := by
  unfold g_X14_copies__251_266_3_b at hg
  refine rf_seg C [(.iload 4, 2), (.iconst 6, 2)] (pc' := 7) (S' := ([(0, .ref 251), (1, .int a1), (2, .ref 266), (3, .int a3), (4, .int a4)], [.int 6, .int a4], rf_MM w m)) (by decide +kernel) rfl trivial ?_
  refine rf_icmp_ge C 21 28 (by decide +kernel) (fun hc => ?_) (fun hc => ?_)
  · replace hg := (if_pos hc).symm.trans hg
    obtain rfl := Option.some.inj hg
    exact rf_vret C hE (by decide +kernel)
  · replace hg := (if_neg hc).symm.trans hg
    obtain ⟨q0, hg⟩ := rf_g_some hg
    obtain ⟨q1, hg⟩ := rf_g_some hg
    refine rf_seg C [(.aload 0, 1), (.iload 1, 1), (.iload 4, 2), (.iadd, 1), (.aload 2, 1), (.iload 3, 1), (.iload 4, 2), (.iadd, 1), (.iaload, 1), (.iastore, 1), (.iinc 4 1, 3)] (pc' := 25) (S' := ([(4, .int (a4 + 1)), (0, .ref 251), (1, .int a1), (2, .ref 266), (3, .int a3)], [], rf_MM w (rf_i m 251 (Int32.toNatClampNeg (a1 + a4)) (m.1 266 (Int32.toNatClampNeg (a3 + a4)))))) (by decide +kernel) rfl (by exact ⟨(rf_in_of q0), (rf_in_of q1)⟩) ?_
    refine rf_goto C (-22) 3 (by decide +kernel) ?_
    refine rf_few [1, 2, 3, 4, 0] rfl ?_
    exact hr3 a1 a3 (a4 + 1) (rf_i m 251 (Int32.toNatClampNeg (a1 + a4)) (m.1 266 (Int32.toNatClampNeg (a3 + a4)))) hg
theorem s_X14_copies__251_266_3 {w : rf_w} {K : rf_K} {r : rf_m} (C : rf_Ctx 14 cX14_copies 5 1 (rf_sh w) K) (hE : rf_End none K (rf_sh w) 0 0 none (rf_MM w r)) (n : Nat) : ∀ (a1 : Int32) (a3 : Int32) (a4 : Int32) (m : rf_m), g_X14_copies__251_266_3 w n a1 a3 a4 m = some r → rf_V 5 (rf_sh w) K 0 0 3 ([(0, .ref 251), (1, .int a1), (2, .ref 266), (3, .int a3), (4, .int a4)], [], rf_MM w m) := by
  induction n with
  | zero => intro a1 a3 a4 m hg; cases hg
  | succ n ih => intro a1 a3 a4 m hg; exact s_X14_copies__251_266_3_b C hE ih a1 a3 a4 m hg
theorem c_X14_copies__251_266 {w : rf_w} {m : rf_m} {a1 : Int32} {a3 : Int32} {r : rf_m} (hg : g_X14_copies__251_266 w m a1 a3 = some r) : rf_Con j_X14_copies__251_266 1 (rf_sh w) [.ref 251, .int a1, .ref 266, .int a3] (rf_MM w m) none (rf_MM w r) := by
  refine rf_con j_X14_copies__251_266 1 ⟨by decide +kernel, rfl, Nat.le_of_ble_eq_true rfl⟩ (fun K C hE => ?_)
  unfold g_X14_copies__251_266 at hg
  show rf_V 5 (rf_sh w) K 0 0 0 ([(0, .ref 251), (1, .int a1), (2, .ref 266), (3, .int a3)], [], rf_MM w m)
  refine rf_seg C [(.iconst 0, 1), (.istore 4, 2)] (pc' := 3) (S' := ([(4, .int 0), (0, .ref 251), (1, .int a1), (2, .ref 266), (3, .int a3)], [], rf_MM w m)) (by decide +kernel) rfl trivial ?_
  refine rf_few [1, 2, 3, 4, 0] rfl ?_
  exact s_X14_copies__251_266_3 C hE rf_fuel a1 a3 0 m hg
-- X14_divides__267_266
abbrev j_X14_divides__267_266 : rf_J := (14, yX14_divides, cX14_divides, 6, none)
theorem mw_X14_divides__267_266 : rf_mv j_X14_divides__267_266 (rf_R 14) 4 := ⟨⟨rf_mem 72 (by decide +kernel), rf_mem 72 (by decide +kernel), rf_mem 0 (by decide +kernel), rf_mem 72 (by decide +kernel)⟩, by decide +kernel, by decide⟩
def g_X14_divides__267_266_139 (w : rf_w) (rec42 : Int32 → Int32 → Int32 → rf_m → Option (rf_m)) (a2 : Int32) (a4 : Int32) (a5 : Int32) (m : rf_m) : Option (rf_m) := rec42 a2 a4 (a5 + (-1)) m
def g_X14_divides__267_266_42_b (w : rf_w) (rec42 : Int32 → Int32 → Int32 → rf_m → Option (rf_m)) (a2 : Int32) (a4 : Int32) (a5 : Int32) (m : rf_m) : Option (rf_m) := (if a5 < 0 then some m else rf_bv (g_X14_adds__250_250 w m 0 0) fun m0 => rf_g (rf_in (a2 + (a5 / 32)) 6) (rf_bv (g_X14_adds__249_249 w (rf_i m0 250 (Int32.toNatClampNeg 0) ((m0.1 250 (Int32.toNatClampNeg 0)) ||| (((Int32.toUInt32 (m0.1 267 (Int32.toNatClampNeg (a2 + (a5 / 32)))) >>> (Int32.toUInt32 (a5 - a5 / 32 * 32) &&& Int32.toUInt32 31)).toInt32) &&& 1))) 0 0) fun m2 => rf_b (g_X14_isNoLess__250_266 w m2 0 a4) fun y3 m3 => (if y3 = 0 then g_X14_divides__267_266_139 w rec42 a2 a4 a5 m3 else rf_bv (g_X14_adds__250_251 w m3 0 0) fun m4 => g_X14_divides__267_266_139 w rec42 a2 a4 a5 (rf_i m4 249 (Int32.toNatClampNeg 0) ((m4.1 249 (Int32.toNatClampNeg 0)) ||| 1)))))
def g_X14_divides__267_266_42 (w : rf_w) : Nat → Int32 → Int32 → Int32 → rf_m → Option (rf_m)
  | 0, _, _, _, _ => none
  | n + 1, a2, a4, a5, m => g_X14_divides__267_266_42_b w (g_X14_divides__267_266_42 w n) a2 a4 a5 m
def g_X14_divides__267_266 (w : rf_w) (m : rf_m) (a2 : Int32) (a4 : Int32) : Option (rf_m) := rf_bv (g_X14_set__249 w m 0 0) fun m0 => rf_bv (g_X14_set__250 w m0 0 0) fun m1 => rf_bv (g_X14_copies__251_266 w m1 0 a4) fun m2 => rf_bv (g_X14_turns__251 w m2 0) fun m3 => g_X14_divides__267_266_42 w rf_fuel a2 a4 191 m3
theorem s_X14_divides__267_266_139 {w : rf_w} {K : rf_K} {r : rf_m} (C : rf_Ctx 14 cX14_divides 6 2 (rf_sh w) K) (hE : rf_End none K (rf_sh w) 0 0 none (rf_MM w r)) {rec42 : Int32 → Int32 → Int32 → rf_m → Option (rf_m)} (hr42 : ∀ (a2 : Int32) (a4 : Int32) (a5 : Int32) (m : rf_m), rec42 a2 a4 a5 m = some r → rf_V 6 (rf_sh w) K 0 0 42 ([(0, .ref 206), (1, .ref 267), (2, .int a2), (3, .ref 266), (4, .int a4), (5, .int a5)], [], rf_MM w m)) (a2 : Int32) (a4 : Int32) (a5 : Int32) (m : rf_m) (hg : g_X14_divides__267_266_139 w rec42 a2 a4 a5 m = some r) : rf_V 6 (rf_sh w) K 0 0 139 ([(0, .ref 206), (1, .ref 267), (2, .int a2), (3, .ref 266), (4, .int a4), (5, .int a5)], [], rf_MM w m) := by
  unfold g_X14_divides__267_266_139 at hg
  refine rf_seg C [(.iinc 5 (-1), 3)] (pc' := 142) (S' := ([(5, .int (a5 + (-1))), (0, .ref 206), (1, .ref 267), (2, .int a2), (3, .ref 266), (4, .int a4)], [], rf_MM w m)) (by decide +kernel) rfl trivial ?_
  refine rf_goto C (-100) 42 (by decide +kernel) ?_
  refine rf_few [1, 2, 3, 4, 5, 0] rfl ?_
  exact hr42 a2 a4 (a5 + (-1)) m hg
theorem s_X14_divides__267_266_42_b {w : rf_w} {K : rf_K} {r : rf_m} (C : rf_Ctx 14 cX14_divides 6 2 (rf_sh w) K) (hE : rf_End none K (rf_sh w) 0 0 none (rf_MM w r)) {rec42 : Int32 → Int32 → Int32 → rf_m → Option (rf_m)} (hr42 : ∀ (a2 : Int32) (a4 : Int32) (a5 : Int32) (m : rf_m), rec42 a2 a4 a5 m = some r → rf_V 6 (rf_sh w) K 0 0 42 ([(0, .ref 206), (1, .ref 267), (2, .int a2), (3, .ref 266), (4, .int a4), (5, .int a5)], [], rf_MM w m)) (a2 : Int32) (a4 : Int32) (a5 : Int32) (m : rf_m) (hg : g_X14_divides__267_266_42_b w rec42 a2 a4 a5 m = some r) : rf_V 6 (rf_sh w) K 0 0 42 ([(0, .ref 206), (1, .ref 267), (2, .int a2), (3, .ref 266), (4, .int a4), (5, .int a5)], [], rf_MM w m) := by
  unfold g_X14_divides__267_266_42_b at hg
  refine rf_seg C [(.iload 5, 2)] (pc' := 44) (S' := ([(0, .ref 206), (1, .ref 267), (2, .int a2), (3, .ref 266), (4, .int a4), (5, .int a5)], [.int a5], rf_MM w m)) (by decide +kernel) rfl trivial ?_
  refine rf_if_lt C 101 145 (by decide +kernel) (fun hc => ?_) (fun hc => ?_)
  · replace hg := (if_pos hc).symm.trans hg
    obtain rfl := Option.some.inj hg
    exact rf_vret C hE (by decide +kernel)
  · replace hg := (if_neg hc).symm.trans hg
    refine rf_seg C [(.aload 0, 1), (.invokeinterface 14 73, 3), (.iconst 0, 1), (.aload 0, 1), (.invokeinterface 14 73, 3), (.iconst 0, 1)] (pc' := 57) (S' := ([(0, .ref 206), (1, .ref 267), (2, .int a2), (3, .ref 266), (4, .int a4), (5, .int a5)], [.int 0, .ref 250, .int 0, .ref 250], rf_MM w m)) (by decide +kernel) rfl trivial ?_
    obtain ⟨m0, hc0, hg⟩ := rf_bv_some hg
    refine rf_calls C rf_fit0 j_X14_adds__250_250 (As := [.ref 250, .int 0, .ref 250, .int 0]) (rest := []) mw_X14_adds__250_250 (c_X14_adds__250_250 hc0) (by decide) lk_14_748 rfl rfl (Nat.le_of_ble_eq_true rfl) (by decide +kernel) ?_
    show rf_V 6 (rf_sh w) K 0 0 60 ([(0, .ref 206), (1, .ref 267), (2, .int a2), (3, .ref 266), (4, .int a4), (5, .int a5)], [], rf_MM w m0)
    obtain ⟨q1, hg⟩ := rf_g_some hg
    refine rf_seg C [(.aload 0, 1), (.invokeinterface 14 73, 3), (.iconst 0, 1), (.dup2, 1), (.iaload, 1), (.aload 1, 1), (.iload 2, 1), (.iload 5, 2), (.iconst 32, 2), (.idiv, 1), (.iadd, 1), (.iaload, 1), (.iload 5, 2), (.iconst 32, 2), (.irem, 1), (.iushr, 1), (.iconst 1, 1), (.iand, 1), (.ior, 1), (.iastore, 1), (.aload 0, 1), (.invokeinterface 14 72, 3), (.iconst 0, 1), (.aload 0, 1), (.invokeinterface 14 72, 3), (.iconst 0, 1)] (pc' := 96) (S' := ([(0, .ref 206), (1, .ref 267), (2, .int a2), (3, .ref 266), (4, .int a4), (5, .int a5)], [.int 0, .ref 249, .int 0, .ref 249], rf_MM w (rf_i m0 250 (Int32.toNatClampNeg 0) ((m0.1 250 (Int32.toNatClampNeg 0)) ||| (((Int32.toUInt32 (m0.1 267 (Int32.toNatClampNeg (a2 + (a5 / 32)))) >>> (Int32.toUInt32 (a5 - a5 / 32 * 32) &&& Int32.toUInt32 31)).toInt32) &&& 1))))) (by decide +kernel) rfl (by exact ⟨(rf_in_of (by decide)), (rf_nz_of (by decide)), (rf_in_of q1), (rf_nz_of (by decide)), (rf_in_of (by decide))⟩) ?_
    obtain ⟨m2, hc2, hg⟩ := rf_bv_some hg
    refine rf_calls C rf_fit0 j_X14_adds__249_249 (As := [.ref 249, .int 0, .ref 249, .int 0]) (rest := []) mw_X14_adds__249_249 (c_X14_adds__249_249 hc2) (by decide) lk_14_748 rfl rfl (Nat.le_of_ble_eq_true rfl) (by decide +kernel) ?_
    show rf_V 6 (rf_sh w) K 0 0 99 ([(0, .ref 206), (1, .ref 267), (2, .int a2), (3, .ref 266), (4, .int a4), (5, .int a5)], [], rf_MM w m2)
    refine rf_seg C [(.aload 0, 1), (.invokeinterface 14 73, 3), (.iconst 0, 1), (.aload 3, 1), (.iload 4, 2)] (pc' := 107) (S' := ([(0, .ref 206), (1, .ref 267), (2, .int a2), (3, .ref 266), (4, .int a4), (5, .int a5)], [.int a4, .ref 266, .int 0, .ref 250], rf_MM w m2)) (by decide +kernel) rfl trivial ?_
    obtain ⟨y3, m3, hc3, hg⟩ := rf_b_some hg
    refine rf_calls C rf_fit0 j_X14_isNoLess__250_266 (As := [.ref 250, .int 0, .ref 266, .int a4]) (rest := []) mw_X14_isNoLess__250_266 (c_X14_isNoLess__250_266 hc3) (by decide) lk_14_751 rfl rfl (Nat.le_of_ble_eq_true rfl) (by decide +kernel) ?_
    show rf_V 6 (rf_sh w) K 0 0 110 ([(0, .ref 206), (1, .ref 267), (2, .int a2), (3, .ref 266), (4, .int a4), (5, .int a5)], [.int y3], rf_MM w m3)
    refine rf_if_ne C 6 116 (by decide +kernel) (fun hc => ?_) (fun hc => ?_)
    · replace hg := (if_neg hc).symm.trans hg
      refine rf_seg C [(.aload 0, 1), (.invokeinterface 14 73, 3), (.iconst 0, 1), (.aload 0, 1), (.invokeinterface 14 74, 3), (.iconst 0, 1)] (pc' := 126) (S' := ([(0, .ref 206), (1, .ref 267), (2, .int a2), (3, .ref 266), (4, .int a4), (5, .int a5)], [.int 0, .ref 251, .int 0, .ref 250], rf_MM w m3)) (by decide +kernel) rfl trivial ?_
      obtain ⟨m4, hc4, hg⟩ := rf_bv_some hg
      refine rf_calls C rf_fit0 j_X14_adds__250_251 (As := [.ref 250, .int 0, .ref 251, .int 0]) (rest := []) mw_X14_adds__250_251 (c_X14_adds__250_251 hc4) (by decide) lk_14_748 rfl rfl (Nat.le_of_ble_eq_true rfl) (by decide +kernel) ?_
      show rf_V 6 (rf_sh w) K 0 0 129 ([(0, .ref 206), (1, .ref 267), (2, .int a2), (3, .ref 266), (4, .int a4), (5, .int a5)], [], rf_MM w m4)
      refine rf_seg C [(.aload 0, 1), (.invokeinterface 14 72, 3), (.iconst 0, 1), (.dup2, 1), (.iaload, 1), (.iconst 1, 1), (.ior, 1), (.iastore, 1)] (pc' := 139) (S' := ([(0, .ref 206), (1, .ref 267), (2, .int a2), (3, .ref 266), (4, .int a4), (5, .int a5)], [], rf_MM w (rf_i m4 249 (Int32.toNatClampNeg 0) ((m4.1 249 (Int32.toNatClampNeg 0)) ||| 1)))) (by decide +kernel) rfl (by exact ⟨(rf_in_of (by decide)), (rf_in_of (by decide))⟩) ?_
      refine rf_few [0, 1, 2, 3, 4, 5] rfl ?_
      exact s_X14_divides__267_266_139 C hE hr42 a2 a4 a5 (rf_i m4 249 (Int32.toNatClampNeg 0) ((m4.1 249 (Int32.toNatClampNeg 0)) ||| 1)) hg
    · replace hg := (if_pos hc).symm.trans hg
      refine rf_goto C 26 139 (by decide +kernel) ?_
      refine rf_few [0, 1, 2, 3, 4, 5] rfl ?_
      exact s_X14_divides__267_266_139 C hE hr42 a2 a4 a5 m3 hg
theorem s_X14_divides__267_266_42 {w : rf_w} {K : rf_K} {r : rf_m} (C : rf_Ctx 14 cX14_divides 6 2 (rf_sh w) K) (hE : rf_End none K (rf_sh w) 0 0 none (rf_MM w r)) (n : Nat) : ∀ (a2 : Int32) (a4 : Int32) (a5 : Int32) (m : rf_m), g_X14_divides__267_266_42 w n a2 a4 a5 m = some r → rf_V 6 (rf_sh w) K 0 0 42 ([(0, .ref 206), (1, .ref 267), (2, .int a2), (3, .ref 266), (4, .int a4), (5, .int a5)], [], rf_MM w m) := by
  induction n with
  | zero => intro a2 a4 a5 m hg; cases hg
  | succ n ih => intro a2 a4 a5 m hg; exact s_X14_divides__267_266_42_b C hE ih a2 a4 a5 m hg
theorem c_X14_divides__267_266 {w : rf_w} {m : rf_m} {a2 : Int32} {a4 : Int32} {r : rf_m} (hg : g_X14_divides__267_266 w m a2 a4 = some r) : rf_Con j_X14_divides__267_266 2 (rf_sh w) [.ref 206, .ref 267, .int a2, .ref 266, .int a4] (rf_MM w m) none (rf_MM w r) := by
  refine rf_con j_X14_divides__267_266 2 ⟨by decide +kernel, rfl, Nat.le_of_ble_eq_true rfl⟩ (fun K C hE => ?_)
  unfold g_X14_divides__267_266 at hg
  show rf_V 6 (rf_sh w) K 0 0 0 ([(0, .ref 206), (1, .ref 267), (2, .int a2), (3, .ref 266), (4, .int a4)], [], rf_MM w m)
  refine rf_seg C [(.aload 0, 1), (.invokeinterface 14 72, 3), (.iconst 0, 1), (.goto_w 0, 1)] (pc' := 6) (S' := ([(0, .ref 206), (1, .ref 267), (2, .int a2), (3, .ref 266), (4, .int a4)], [.long 0, .int 0, .ref 249], rf_MM w m)) (by decide +kernel) rfl trivial ?_
  obtain ⟨m0, hc0, hg⟩ := rf_bv_some hg
  refine rf_calls C rf_fit0 j_X14_set__249 (As := [.ref 249, .int 0, .long 0]) (rest := []) mw_X14_set__249 (c_X14_set__249 hc0) (by decide) lk_14_740 rfl rfl (Nat.le_of_ble_eq_true rfl) (by decide +kernel) ?_
  show rf_V 6 (rf_sh w) K 0 0 9 ([(0, .ref 206), (1, .ref 267), (2, .int a2), (3, .ref 266), (4, .int a4)], [], rf_MM w m0)
  refine rf_seg C [(.aload 0, 1), (.invokeinterface 14 73, 3), (.iconst 0, 1), (.goto_w 0, 1)] (pc' := 15) (S' := ([(0, .ref 206), (1, .ref 267), (2, .int a2), (3, .ref 266), (4, .int a4)], [.long 0, .int 0, .ref 250], rf_MM w m0)) (by decide +kernel) rfl trivial ?_
  obtain ⟨m1, hc1, hg⟩ := rf_bv_some hg
  refine rf_calls C rf_fit0 j_X14_set__250 (As := [.ref 250, .int 0, .long 0]) (rest := []) mw_X14_set__250 (c_X14_set__250 hc1) (by decide) lk_14_740 rfl rfl (Nat.le_of_ble_eq_true rfl) (by decide +kernel) ?_
  show rf_V 6 (rf_sh w) K 0 0 18 ([(0, .ref 206), (1, .ref 267), (2, .int a2), (3, .ref 266), (4, .int a4)], [], rf_MM w m1)
  refine rf_seg C [(.aload 0, 1), (.invokeinterface 14 74, 3), (.iconst 0, 1), (.aload 3, 1), (.iload 4, 2)] (pc' := 26) (S' := ([(0, .ref 206), (1, .ref 267), (2, .int a2), (3, .ref 266), (4, .int a4)], [.int a4, .ref 266, .int 0, .ref 251], rf_MM w m1)) (by decide +kernel) rfl trivial ?_
  obtain ⟨m2, hc2, hg⟩ := rf_bv_some hg
  refine rf_calls C rf_fit0 j_X14_copies__251_266 (As := [.ref 251, .int 0, .ref 266, .int a4]) (rest := []) mw_X14_copies__251_266 (c_X14_copies__251_266 hc2) (by decide) lk_14_744 rfl rfl (Nat.le_of_ble_eq_true rfl) (by decide +kernel) ?_
  show rf_V 6 (rf_sh w) K 0 0 29 ([(0, .ref 206), (1, .ref 267), (2, .int a2), (3, .ref 266), (4, .int a4)], [], rf_MM w m2)
  refine rf_seg C [(.aload 0, 1), (.invokeinterface 14 74, 3), (.iconst 0, 1)] (pc' := 34) (S' := ([(0, .ref 206), (1, .ref 267), (2, .int a2), (3, .ref 266), (4, .int a4)], [.int 0, .ref 251], rf_MM w m2)) (by decide +kernel) rfl trivial ?_
  obtain ⟨m3, hc3, hg⟩ := rf_bv_some hg
  refine rf_calls C rf_fit0 j_X14_turns__251 (As := [.ref 251, .int 0]) (rest := []) mw_X14_turns__251 (c_X14_turns__251 hc3) (by decide) lk_14_736 rfl rfl (Nat.le_of_ble_eq_true rfl) (by decide +kernel) ?_
  show rf_V 6 (rf_sh w) K 0 0 37 ([(0, .ref 206), (1, .ref 267), (2, .int a2), (3, .ref 266), (4, .int a4)], [], rf_MM w m3)
  refine rf_seg C [(.iconst 191, 3), (.istore 5, 2)] (pc' := 42) (S' := ([(5, .int 191), (0, .ref 206), (1, .ref 267), (2, .int a2), (3, .ref 266), (4, .int a4)], [], rf_MM w m3)) (by decide +kernel) rfl trivial ?_
  refine rf_few [1, 2, 3, 4, 5, 0] rfl ?_
  exact s_X14_divides__267_266_42 C hE rf_fuel a2 a4 191 m3 hg
-- X14_copies__267_266
abbrev j_X14_copies__267_266 : rf_J := (14, yX14_copies, cX14_copies, 5, none)
theorem mw_X14_copies__267_266 : rf_ms j_X14_copies__267_266 4 := ⟨⟨rf_mem 71 (by decide +kernel), rf_mem 0 (by decide +kernel), rf_mem 71 (by decide +kernel)⟩, by decide +kernel, by decide⟩
def g_X14_copies__267_266_3_b (w : rf_w) (rec3 : Int32 → Int32 → Int32 → rf_m → Option (rf_m)) (a1 : Int32) (a3 : Int32) (a4 : Int32) (m : rf_m) : Option (rf_m) := (if 6 ≤ a4 then some m else rf_g (rf_in (a3 + a4) 6) (rf_g (rf_in (a1 + a4) 6) (rec3 a1 a3 (a4 + 1) (rf_i m 267 (Int32.toNatClampNeg (a1 + a4)) (m.1 266 (Int32.toNatClampNeg (a3 + a4)))))))
def g_X14_copies__267_266_3 (w : rf_w) : Nat → Int32 → Int32 → Int32 → rf_m → Option (rf_m)
  | 0, _, _, _, _ => none
  | n + 1, a1, a3, a4, m => g_X14_copies__267_266_3_b w (g_X14_copies__267_266_3 w n) a1 a3 a4 m
def g_X14_copies__267_266 (w : rf_w) (m : rf_m) (a1 : Int32) (a3 : Int32) : Option (rf_m) := g_X14_copies__267_266_3 w rf_fuel a1 a3 0 m
theorem s_X14_copies__267_266_3_b {w : rf_w} {K : rf_K} {r : rf_m} (C : rf_Ctx 14 cX14_copies 5 1 (rf_sh w) K) (hE : rf_End none K (rf_sh w) 0 0 none (rf_MM w r)) {rec3 : Int32 → Int32 → Int32 → rf_m → Option (rf_m)} (hr3 : ∀ (a1 : Int32) (a3 : Int32) (a4 : Int32) (m : rf_m), rec3 a1 a3 a4 m = some r → rf_V 5 (rf_sh w) K 0 0 3 ([(0, .ref 267), (1, .int a1), (2, .ref 266), (3, .int a3), (4, .int a4)], [], rf_MM w m)) (a1 : Int32) (a3 : Int32) (a4 : Int32) (m : rf_m) (hg : g_X14_copies__267_266_3_b w rec3 a1 a3 a4 m = some r) : rf_V 5 (rf_sh w) K 0 0 3 ([(0, .ref 267), (1, .int a1), (2, .ref 266), (3, .int a3), (4, .int a4)], [], rf_MM w m) := by
  unfold g_X14_copies__267_266_3_b at hg
  refine rf_seg C [(.iload 4, 2), (.iconst 6, 2)] (pc' := 7) (S' := ([(0, .ref 267), (1, .int a1), (2, .ref 266), (3, .int a3), (4, .int a4)], [.int 6, .int a4], rf_MM w m)) (by decide +kernel) rfl trivial ?_
  refine rf_icmp_ge C 21 28 (by decide +kernel) (fun hc => ?_) (fun hc => ?_)
  · replace hg := (if_pos hc).symm.trans hg
    obtain rfl := Option.some.inj hg
    exact rf_vret C hE (by decide +kernel)
  · replace hg := (if_neg hc).symm.trans hg
    obtain ⟨q0, hg⟩ := rf_g_some hg
    obtain ⟨q1, hg⟩ := rf_g_some hg
    refine rf_seg C [(.aload 0, 1), (.iload 1, 1), (.iload 4, 2), (.iadd, 1), (.aload 2, 1), (.iload 3, 1), (.iload 4, 2), (.iadd, 1), (.iaload, 1), (.iastore, 1), (.iinc 4 1, 3)] (pc' := 25) (S' := ([(4, .int (a4 + 1)), (0, .ref 267), (1, .int a1), (2, .ref 266), (3, .int a3)], [], rf_MM w (rf_i m 267 (Int32.toNatClampNeg (a1 + a4)) (m.1 266 (Int32.toNatClampNeg (a3 + a4)))))) (by decide +kernel) rfl (by exact ⟨(rf_in_of q0), (rf_in_of q1)⟩) ?_
    refine rf_goto C (-22) 3 (by decide +kernel) ?_
    refine rf_few [1, 2, 3, 4, 0] rfl ?_
    exact hr3 a1 a3 (a4 + 1) (rf_i m 267 (Int32.toNatClampNeg (a1 + a4)) (m.1 266 (Int32.toNatClampNeg (a3 + a4)))) hg
theorem s_X14_copies__267_266_3 {w : rf_w} {K : rf_K} {r : rf_m} (C : rf_Ctx 14 cX14_copies 5 1 (rf_sh w) K) (hE : rf_End none K (rf_sh w) 0 0 none (rf_MM w r)) (n : Nat) : ∀ (a1 : Int32) (a3 : Int32) (a4 : Int32) (m : rf_m), g_X14_copies__267_266_3 w n a1 a3 a4 m = some r → rf_V 5 (rf_sh w) K 0 0 3 ([(0, .ref 267), (1, .int a1), (2, .ref 266), (3, .int a3), (4, .int a4)], [], rf_MM w m) := by
  induction n with
  | zero => intro a1 a3 a4 m hg; cases hg
  | succ n ih => intro a1 a3 a4 m hg; exact s_X14_copies__267_266_3_b C hE ih a1 a3 a4 m hg
theorem c_X14_copies__267_266 {w : rf_w} {m : rf_m} {a1 : Int32} {a3 : Int32} {r : rf_m} (hg : g_X14_copies__267_266 w m a1 a3 = some r) : rf_Con j_X14_copies__267_266 1 (rf_sh w) [.ref 267, .int a1, .ref 266, .int a3] (rf_MM w m) none (rf_MM w r) := by
  refine rf_con j_X14_copies__267_266 1 ⟨by decide +kernel, rfl, Nat.le_of_ble_eq_true rfl⟩ (fun K C hE => ?_)
  unfold g_X14_copies__267_266 at hg
  show rf_V 5 (rf_sh w) K 0 0 0 ([(0, .ref 267), (1, .int a1), (2, .ref 266), (3, .int a3)], [], rf_MM w m)
  refine rf_seg C [(.iconst 0, 1), (.istore 4, 2)] (pc' := 3) (S' := ([(4, .int 0), (0, .ref 267), (1, .int a1), (2, .ref 266), (3, .int a3)], [], rf_MM w m)) (by decide +kernel) rfl trivial ?_
  refine rf_few [1, 2, 3, 4, 0] rfl ?_
  exact s_X14_copies__267_266_3 C hE rf_fuel a1 a3 0 m hg
-- X14_copies__266_250
abbrev j_X14_copies__266_250 : rf_J := (14, yX14_copies, cX14_copies, 5, none)
theorem mw_X14_copies__266_250 : rf_ms j_X14_copies__266_250 4 := ⟨⟨rf_mem 71 (by decide +kernel), rf_mem 0 (by decide +kernel), rf_mem 71 (by decide +kernel)⟩, by decide +kernel, by decide⟩
def g_X14_copies__266_250_3_b (w : rf_w) (rec3 : Int32 → Int32 → Int32 → rf_m → Option (rf_m)) (a1 : Int32) (a3 : Int32) (a4 : Int32) (m : rf_m) : Option (rf_m) := (if 6 ≤ a4 then some m else rf_g (rf_in (a3 + a4) 6) (rf_g (rf_in (a1 + a4) 6) (rec3 a1 a3 (a4 + 1) (rf_i m 266 (Int32.toNatClampNeg (a1 + a4)) (m.1 250 (Int32.toNatClampNeg (a3 + a4)))))))
def g_X14_copies__266_250_3 (w : rf_w) : Nat → Int32 → Int32 → Int32 → rf_m → Option (rf_m)
  | 0, _, _, _, _ => none
  | n + 1, a1, a3, a4, m => g_X14_copies__266_250_3_b w (g_X14_copies__266_250_3 w n) a1 a3 a4 m
def g_X14_copies__266_250 (w : rf_w) (m : rf_m) (a1 : Int32) (a3 : Int32) : Option (rf_m) := g_X14_copies__266_250_3 w rf_fuel a1 a3 0 m
theorem s_X14_copies__266_250_3_b {w : rf_w} {K : rf_K} {r : rf_m} (C : rf_Ctx 14 cX14_copies 5 1 (rf_sh w) K) (hE : rf_End none K (rf_sh w) 0 0 none (rf_MM w r)) {rec3 : Int32 → Int32 → Int32 → rf_m → Option (rf_m)} (hr3 : ∀ (a1 : Int32) (a3 : Int32) (a4 : Int32) (m : rf_m), rec3 a1 a3 a4 m = some r → rf_V 5 (rf_sh w) K 0 0 3 ([(0, .ref 266), (1, .int a1), (2, .ref 250), (3, .int a3), (4, .int a4)], [], rf_MM w m)) (a1 : Int32) (a3 : Int32) (a4 : Int32) (m : rf_m) (hg : g_X14_copies__266_250_3_b w rec3 a1 a3 a4 m = some r) : rf_V 5 (rf_sh w) K 0 0 3 ([(0, .ref 266), (1, .int a1), (2, .ref 250), (3, .int a3), (4, .int a4)], [], rf_MM w m) := by
  unfold g_X14_copies__266_250_3_b at hg
  refine rf_seg C [(.iload 4, 2), (.iconst 6, 2)] (pc' := 7) (S' := ([(0, .ref 266), (1, .int a1), (2, .ref 250), (3, .int a3), (4, .int a4)], [.int 6, .int a4], rf_MM w m)) (by decide +kernel) rfl trivial ?_
  refine rf_icmp_ge C 21 28 (by decide +kernel) (fun hc => ?_) (fun hc => ?_)
  · replace hg := (if_pos hc).symm.trans hg
    obtain rfl := Option.some.inj hg
    exact rf_vret C hE (by decide +kernel)
  · replace hg := (if_neg hc).symm.trans hg
    obtain ⟨q0, hg⟩ := rf_g_some hg
    obtain ⟨q1, hg⟩ := rf_g_some hg
    refine rf_seg C [(.aload 0, 1), (.iload 1, 1), (.iload 4, 2), (.iadd, 1), (.aload 2, 1), (.iload 3, 1), (.iload 4, 2), (.iadd, 1), (.iaload, 1), (.iastore, 1), (.iinc 4 1, 3)] (pc' := 25) (S' := ([(4, .int (a4 + 1)), (0, .ref 266), (1, .int a1), (2, .ref 250), (3, .int a3)], [], rf_MM w (rf_i m 266 (Int32.toNatClampNeg (a1 + a4)) (m.1 250 (Int32.toNatClampNeg (a3 + a4)))))) (by decide +kernel) rfl (by exact ⟨(rf_in_of q0), (rf_in_of q1)⟩) ?_
    refine rf_goto C (-22) 3 (by decide +kernel) ?_
    refine rf_few [1, 2, 3, 4, 0] rfl ?_
    exact hr3 a1 a3 (a4 + 1) (rf_i m 266 (Int32.toNatClampNeg (a1 + a4)) (m.1 250 (Int32.toNatClampNeg (a3 + a4)))) hg
theorem s_X14_copies__266_250_3 {w : rf_w} {K : rf_K} {r : rf_m} (C : rf_Ctx 14 cX14_copies 5 1 (rf_sh w) K) (hE : rf_End none K (rf_sh w) 0 0 none (rf_MM w r)) (n : Nat) : ∀ (a1 : Int32) (a3 : Int32) (a4 : Int32) (m : rf_m), g_X14_copies__266_250_3 w n a1 a3 a4 m = some r → rf_V 5 (rf_sh w) K 0 0 3 ([(0, .ref 266), (1, .int a1), (2, .ref 250), (3, .int a3), (4, .int a4)], [], rf_MM w m) := by
  induction n with
  | zero => intro a1 a3 a4 m hg; cases hg
  | succ n ih => intro a1 a3 a4 m hg; exact s_X14_copies__266_250_3_b C hE ih a1 a3 a4 m hg
theorem c_X14_copies__266_250 {w : rf_w} {m : rf_m} {a1 : Int32} {a3 : Int32} {r : rf_m} (hg : g_X14_copies__266_250 w m a1 a3 = some r) : rf_Con j_X14_copies__266_250 1 (rf_sh w) [.ref 266, .int a1, .ref 250, .int a3] (rf_MM w m) none (rf_MM w r) := by
  refine rf_con j_X14_copies__266_250 1 ⟨by decide +kernel, rfl, Nat.le_of_ble_eq_true rfl⟩ (fun K C hE => ?_)
  unfold g_X14_copies__266_250 at hg
  show rf_V 5 (rf_sh w) K 0 0 0 ([(0, .ref 266), (1, .int a1), (2, .ref 250), (3, .int a3)], [], rf_MM w m)
  refine rf_seg C [(.iconst 0, 1), (.istore 4, 2)] (pc' := 3) (S' := ([(4, .int 0), (0, .ref 266), (1, .int a1), (2, .ref 250), (3, .int a3)], [], rf_MM w m)) (by decide +kernel) rfl trivial ?_
  refine rf_few [1, 2, 3, 4, 0] rfl ?_
  exact s_X14_copies__266_250_3 C hE rf_fuel a1 a3 0 m hg
-- X14_copies__267_259
abbrev j_X14_copies__267_259 : rf_J := (14, yX14_copies, cX14_copies, 5, none)
theorem mw_X14_copies__267_259 : rf_ms j_X14_copies__267_259 4 := ⟨⟨rf_mem 71 (by decide +kernel), rf_mem 0 (by decide +kernel), rf_mem 71 (by decide +kernel)⟩, by decide +kernel, by decide⟩
def g_X14_copies__267_259_3_b (w : rf_w) (rec3 : Int32 → Int32 → Int32 → rf_m → Option (rf_m)) (a1 : Int32) (a3 : Int32) (a4 : Int32) (m : rf_m) : Option (rf_m) := (if 6 ≤ a4 then some m else rf_g (rf_in (a3 + a4) 6) (rf_g (rf_in (a1 + a4) 6) (rec3 a1 a3 (a4 + 1) (rf_i m 267 (Int32.toNatClampNeg (a1 + a4)) (m.1 259 (Int32.toNatClampNeg (a3 + a4)))))))
def g_X14_copies__267_259_3 (w : rf_w) : Nat → Int32 → Int32 → Int32 → rf_m → Option (rf_m)
  | 0, _, _, _, _ => none
  | n + 1, a1, a3, a4, m => g_X14_copies__267_259_3_b w (g_X14_copies__267_259_3 w n) a1 a3 a4 m
def g_X14_copies__267_259 (w : rf_w) (m : rf_m) (a1 : Int32) (a3 : Int32) : Option (rf_m) := g_X14_copies__267_259_3 w rf_fuel a1 a3 0 m
theorem s_X14_copies__267_259_3_b {w : rf_w} {K : rf_K} {r : rf_m} (C : rf_Ctx 14 cX14_copies 5 1 (rf_sh w) K) (hE : rf_End none K (rf_sh w) 0 0 none (rf_MM w r)) {rec3 : Int32 → Int32 → Int32 → rf_m → Option (rf_m)} (hr3 : ∀ (a1 : Int32) (a3 : Int32) (a4 : Int32) (m : rf_m), rec3 a1 a3 a4 m = some r → rf_V 5 (rf_sh w) K 0 0 3 ([(0, .ref 267), (1, .int a1), (2, .ref 259), (3, .int a3), (4, .int a4)], [], rf_MM w m)) (a1 : Int32) (a3 : Int32) (a4 : Int32) (m : rf_m) (hg : g_X14_copies__267_259_3_b w rec3 a1 a3 a4 m = some r) : rf_V 5 (rf_sh w) K 0 0 3 ([(0, .ref 267), (1, .int a1), (2, .ref 259), (3, .int a3), (4, .int a4)], [], rf_MM w m) := by
  unfold g_X14_copies__267_259_3_b at hg
  refine rf_seg C [(.iload 4, 2), (.iconst 6, 2)] (pc' := 7) (S' := ([(0, .ref 267), (1, .int a1), (2, .ref 259), (3, .int a3), (4, .int a4)], [.int 6, .int a4], rf_MM w m)) (by decide +kernel) rfl trivial ?_
  refine rf_icmp_ge C 21 28 (by decide +kernel) (fun hc => ?_) (fun hc => ?_)
  · replace hg := (if_pos hc).symm.trans hg
    obtain rfl := Option.some.inj hg
    exact rf_vret C hE (by decide +kernel)
  · replace hg := (if_neg hc).symm.trans hg
    obtain ⟨q0, hg⟩ := rf_g_some hg
    obtain ⟨q1, hg⟩ := rf_g_some hg
    refine rf_seg C [(.aload 0, 1), (.iload 1, 1), (.iload 4, 2), (.iadd, 1), (.aload 2, 1), (.iload 3, 1), (.iload 4, 2), (.iadd, 1), (.iaload, 1), (.iastore, 1), (.iinc 4 1, 3)] (pc' := 25) (S' := ([(4, .int (a4 + 1)), (0, .ref 267), (1, .int a1), (2, .ref 259), (3, .int a3)], [], rf_MM w (rf_i m 267 (Int32.toNatClampNeg (a1 + a4)) (m.1 259 (Int32.toNatClampNeg (a3 + a4)))))) (by decide +kernel) rfl (by exact ⟨(rf_in_of q0), (rf_in_of q1)⟩) ?_
    refine rf_goto C (-22) 3 (by decide +kernel) ?_
    refine rf_few [1, 2, 3, 4, 0] rfl ?_
    exact hr3 a1 a3 (a4 + 1) (rf_i m 267 (Int32.toNatClampNeg (a1 + a4)) (m.1 259 (Int32.toNatClampNeg (a3 + a4)))) hg
theorem s_X14_copies__267_259_3 {w : rf_w} {K : rf_K} {r : rf_m} (C : rf_Ctx 14 cX14_copies 5 1 (rf_sh w) K) (hE : rf_End none K (rf_sh w) 0 0 none (rf_MM w r)) (n : Nat) : ∀ (a1 : Int32) (a3 : Int32) (a4 : Int32) (m : rf_m), g_X14_copies__267_259_3 w n a1 a3 a4 m = some r → rf_V 5 (rf_sh w) K 0 0 3 ([(0, .ref 267), (1, .int a1), (2, .ref 259), (3, .int a3), (4, .int a4)], [], rf_MM w m) := by
  induction n with
  | zero => intro a1 a3 a4 m hg; cases hg
  | succ n ih => intro a1 a3 a4 m hg; exact s_X14_copies__267_259_3_b C hE ih a1 a3 a4 m hg
theorem c_X14_copies__267_259 {w : rf_w} {m : rf_m} {a1 : Int32} {a3 : Int32} {r : rf_m} (hg : g_X14_copies__267_259 w m a1 a3 = some r) : rf_Con j_X14_copies__267_259 1 (rf_sh w) [.ref 267, .int a1, .ref 259, .int a3] (rf_MM w m) none (rf_MM w r) := by
  refine rf_con j_X14_copies__267_259 1 ⟨by decide +kernel, rfl, Nat.le_of_ble_eq_true rfl⟩ (fun K C hE => ?_)
  unfold g_X14_copies__267_259 at hg
  show rf_V 5 (rf_sh w) K 0 0 0 ([(0, .ref 267), (1, .int a1), (2, .ref 259), (3, .int a3)], [], rf_MM w m)
  refine rf_seg C [(.iconst 0, 1), (.istore 4, 2)] (pc' := 3) (S' := ([(4, .int 0), (0, .ref 267), (1, .int a1), (2, .ref 259), (3, .int a3)], [], rf_MM w m)) (by decide +kernel) rfl trivial ?_
  refine rf_few [1, 2, 3, 4, 0] rfl ?_
  exact s_X14_copies__267_259_3 C hE rf_fuel a1 a3 0 m hg
-- X14_isBelow__266
abbrev j_X14_isBelow__266 : rf_J := (14, yX14_isBelow, cX14_isBelow, 2, (some .boolean))
theorem mw_X14_isBelow__266 : rf_ms j_X14_isBelow__266 2 := ⟨⟨rf_mem 72 (by decide +kernel), rf_mem 0 (by decide +kernel), rf_mem 72 (by decide +kernel)⟩, by decide +kernel, by decide⟩
def g_X14_isBelow__266 (w : rf_w) (m : rf_m) (a1 : Int32) : Option (Int32 × rf_m) := rf_g (rf_in ((a1 + 6) - 1) 6) ((if (0 : Int32) ≤ (m.1 266 (Int32.toNatClampNeg ((a1 + 6) - 1))) then some (0, m) else some (1, m)))
theorem c_X14_isBelow__266 {w : rf_w} {m : rf_m} {a1 : Int32} {r : Int32 × rf_m} (hg : g_X14_isBelow__266 w m a1 = some r) : rf_Con j_X14_isBelow__266 1 (rf_sh w) [.ref 266, .int a1] (rf_MM w m) (some (.int r.1)) (rf_MM w r.2) := by
  refine rf_con j_X14_isBelow__266 1 ⟨by decide +kernel, rfl, Nat.le_of_ble_eq_true rfl⟩ (fun K C hE => ?_)
  unfold g_X14_isBelow__266 at hg
  show rf_V 2 (rf_sh w) K 0 0 0 ([(0, .ref 266), (1, .int a1)], [], rf_MM w m)
  obtain ⟨q0, hg⟩ := rf_g_some hg
  refine rf_seg C [(.aload 0, 1), (.iload 1, 1), (.iconst 6, 2), (.iadd, 1), (.iconst 1, 1), (.isub, 1), (.iaload, 1)] (pc' := 8) (S' := ([(0, .ref 266), (1, .int a1)], [.int (m.1 266 (Int32.toNatClampNeg ((a1 + 6) - 1)))], rf_MM w m)) (by decide +kernel) rfl (rf_in_of q0) ?_
  refine rf_if_ge C 7 15 (by decide +kernel) (fun hc => ?_) (fun hc => ?_)
  · replace hg := (if_pos hc).symm.trans hg
    refine rf_seg C [(.iconst 0, 1)] (pc' := 16) (S' := ([(0, .ref 266), (1, .int a1)], [.int 0], rf_MM w m)) (by decide +kernel) rfl trivial ?_
    obtain rfl := Option.some.inj hg
    exact rf_zret C hE (by decide) (by decide +kernel)
  · replace hg := (if_neg hc).symm.trans hg
    refine rf_seg C [(.iconst 1, 1)] (pc' := 12) (S' := ([(0, .ref 266), (1, .int a1)], [.int 1], rf_MM w m)) (by decide +kernel) rfl trivial ?_
    refine rf_goto C 4 16 (by decide +kernel) ?_
    obtain rfl := Option.some.inj hg
    exact rf_zret C hE (by decide) (by decide +kernel)
-- X14_part
abbrev j_X14_part : rf_J := (14, yX14_part, cX14_part, 6, (some .int))
theorem mw_X14_part : rf_mv j_X14_part (rf_R 14) 2 := ⟨⟨rf_mem 74 (by decide +kernel), rf_mem 74 (by decide +kernel), rf_mem 0 (by decide +kernel), rf_mem 74 (by decide +kernel)⟩, by decide +kernel, by decide⟩
def g_X14_part_253 (w : rf_w) (a2 : Int32) (a3 : Int32) (a5 : Int32) (s0 : Int32) (m : rf_m) : Option (Int32 × rf_m) := (if s0 = 0 then some ((-2147483648), m) else (if a2 = 0 then (if a3 = 0 then some (a5, m) else some (-a5, m)) else rf_b (g_X14_quotientLong w m) fun y0 m0 => some (Int64.toInt32 y0, m0)))
def g_X14_part_252 (w : rf_w) (a2 : Int32) (a3 : Int32) (a5 : Int32) (m : rf_m) : Option (Int32 × rf_m) := g_X14_part_253 w a2 a3 a5 0 m
def g_X14_part_202 (w : rf_w) (a2 : Int32) (a3 : Int32) (s0 : Int32) (m : rf_m) : Option (Int32 × rf_m) := rf_b (g_X14_quotientLong w m) fun y0 m0 => rf_bv (g_X14_divides__259_267 w m0 0 0) fun m1 => (if s0 = 0 then g_X14_part_252 w a2 a3 (Int64.toInt32 y0) m1 else rf_b (g_X14_isLong w m1) fun y2 m2 => (if y2 = 0 then g_X14_part_252 w a2 a3 (Int64.toInt32 y0) m2 else rf_b (g_X14_quotientLong w m2) fun y3 m3 => (if (0 : Int32) ≤ (lg_cmp y3 1000000000) then g_X14_part_252 w a2 a3 (Int64.toInt32 y0) m3 else g_X14_part_253 w a2 a3 (Int64.toInt32 y0) 1 m3)))
def g_X14_part_201 (w : rf_w) (a2 : Int32) (a3 : Int32) (m : rf_m) : Option (Int32 × rf_m) := g_X14_part_202 w a2 a3 0 m
def g_X14_part_165 (w : rf_w) (a2 : Int32) (a3 : Int32) (m : rf_m) : Option (Int32 × rf_m) := rf_bv (g_X14_divides__266_267 w m 0 0) fun m0 => rf_b (g_X14_isLong w m0) fun y1 m1 => (if y1 = 0 then g_X14_part_201 w a2 a3 m1 else rf_b (g_X14_quotientLong w m1) fun y2 m2 => (if (0 : Int32) ≤ (lg_cmp y2 1000000000) then g_X14_part_201 w a2 a3 m2 else g_X14_part_202 w a2 a3 1 m2))
def g_X14_part_83_b (w : rf_w) (rec83 : Int32 → Int32 → Int32 → rf_m → Option (Int32 × rf_m)) (a1 : Int32) (a2 : Int32) (a3 : Int32) (m : rf_m) : Option (Int32 × rf_m) := rf_b (g_X14_isZero__266 w m 0) fun y0 m0 => (if y0 = 0 then rf_bv (g_X14_divides__267_266 w m0 0 0) fun m3 => rf_bv (g_X14_copies__267_266 w m3 0 0) fun m4 => rf_bv (g_X14_copies__266_250 w m4 0 0) fun m5 => rec83 a1 a2 a3 m5 else rf_bv (g_X14_copies__266_264 w m0 0 (6 * a1)) fun m1 => (if a3 = 0 then g_X14_part_165 w a2 a3 m1 else rf_bv (g_X14_turns__266 w m1 0) fun m2 => g_X14_part_165 w a2 a3 m2))
def g_X14_part_83 (w : rf_w) : Nat → Int32 → Int32 → Int32 → rf_m → Option (Int32 × rf_m)
  | 0, _, _, _, _ => none
  | n + 1, a1, a2, a3, m => g_X14_part_83_b w (g_X14_part_83 w n) a1 a2 a3 m
def g_X14_part_70 (w : rf_w) (a1 : Int32) (a2 : Int32) (a3 : Int32) (m : rf_m) : Option (Int32 × rf_m) := rf_bv (g_X14_copies__267_259 w m 0 0) fun m0 => g_X14_part_83 w rf_fuel a1 a2 a3 m0
def g_X14_part (w : rf_w) (m : rf_m) (a1 : Int32) (a2 : Int32) : Option (Int32 × rf_m) := rf_b (g_X14_isAngle w (rf_i m 206 0 0) a1) fun y0 m0 => (if y0 = 0 then some ((-2147483648), m0) else (if (m0.1 206 88) = 0 then some ((-2147483648), m0) else rf_g (rf_in a1 80) ((if (m0.1 263 (Int32.toNatClampNeg a1)) = 0 then some ((-2147483648), m0) else rf_bv (g_X14_copies__266_264 w m0 0 (6 * a1)) fun m2 => rf_b (g_X14_isBelow__266 w m2 0) fun y3 m3 => (if y3 = 0 then g_X14_part_70 w a1 a2 y3 m3 else rf_bv (g_X14_turns__266 w m3 0) fun m4 => g_X14_part_70 w a1 a2 y3 m4)))))
theorem s_X14_part_253 {w : rf_w} {K : rf_K} {r : Int32 × rf_m} (C : rf_Ctx 14 cX14_part 6 3 (rf_sh w) K) (hE : rf_End (some .int) K (rf_sh w) 0 0 (some (.int r.1)) (rf_MM w r.2)) (a2 : Int32) (a3 : Int32) (a5 : Int32) (s0 : Int32) (m : rf_m) (hg : g_X14_part_253 w a2 a3 a5 s0 m = some r) : rf_V 6 (rf_sh w) K 0 0 253 ([(0, .ref 206), (2, .int a2), (3, .int a3), (5, .int a5)], [.int s0], rf_MM w m) := by
  unfold g_X14_part_253 at hg
  refine rf_seg C [(.istore 4, 2), (.iload 4, 2)] (pc' := 257) (S' := ([(4, .int s0), (0, .ref 206), (2, .int a2), (3, .int a3), (5, .int a5)], [.int s0], rf_MM w m)) (by decide +kernel) rfl trivial ?_
  refine rf_if_ne C 7 264 (by decide +kernel) (fun hc => ?_) (fun hc => ?_)
  · replace hg := (if_neg hc).symm.trans hg
    refine rf_seg C [(.iload 2, 1)] (pc' := 265) (S' := ([(4, .int s0), (0, .ref 206), (2, .int a2), (3, .int a3), (5, .int a5)], [.int a2], rf_MM w m)) (by decide +kernel) rfl trivial ?_
    refine rf_if_eq C 11 276 (by decide +kernel) (fun hc => ?_) (fun hc => ?_)
    · replace hg := (if_pos hc).symm.trans hg
      refine rf_seg C [(.iload 3, 1)] (pc' := 277) (S' := ([(4, .int s0), (0, .ref 206), (2, .int a2), (3, .int a3), (5, .int a5)], [.int a3], rf_MM w m)) (by decide +kernel) rfl trivial ?_
      refine rf_if_eq C 9 286 (by decide +kernel) (fun hc => ?_) (fun hc => ?_)
      · replace hg := (if_pos hc).symm.trans hg
        refine rf_seg C [(.iload 5, 2)] (pc' := 288) (S' := ([(4, .int s0), (0, .ref 206), (2, .int a2), (3, .int a3), (5, .int a5)], [.int a5], rf_MM w m)) (by decide +kernel) rfl trivial ?_
        obtain rfl := Option.some.inj hg
        exact rf_iret C hE (by decide +kernel)
      · replace hg := (if_neg hc).symm.trans hg
        refine rf_seg C [(.iload 5, 2), (.ineg, 1)] (pc' := 283) (S' := ([(4, .int s0), (0, .ref 206), (2, .int a2), (3, .int a3), (5, .int a5)], [.int (-a5)], rf_MM w m)) (by decide +kernel) rfl trivial ?_
        refine rf_goto C 5 288 (by decide +kernel) ?_
        obtain rfl := Option.some.inj hg
        exact rf_iret C hE (by decide +kernel)
    · replace hg := (if_neg hc).symm.trans hg
      refine rf_seg C [(.aload 0, 1)] (pc' := 269) (S' := ([(4, .int s0), (0, .ref 206), (2, .int a2), (3, .int a3), (5, .int a5)], [.ref 206], rf_MM w m)) (by decide +kernel) rfl trivial ?_
      obtain ⟨y0, m0, hc0, hg⟩ := rf_b_some hg
      refine rf_callv C rf_fit0 j_X14_quotientLong (ci := 14) (As := []) (rest := []) mw_X14_quotientLong (c_X14_quotientLong hc0) (by decide) rfl (by decide) lk_14_788 rfl rfl (Nat.le_of_ble_eq_true rfl) (by decide +kernel) ?_
      show rf_V 6 (rf_sh w) K 0 0 272 ([(4, .int s0), (0, .ref 206), (2, .int a2), (3, .int a3), (5, .int a5)], [.long y0], rf_MM w m0)
      refine rf_seg C [(.l2i, 1)] (pc' := 273) (S' := ([(4, .int s0), (0, .ref 206), (2, .int a2), (3, .int a3), (5, .int a5)], [.int (Int64.toInt32 y0)], rf_MM w m0)) (by decide +kernel) rfl trivial ?_
      refine rf_goto C 15 288 (by decide +kernel) ?_
      obtain rfl := Option.some.inj hg
      exact rf_iret C hE (by decide +kernel)
  · replace hg := (if_pos hc).symm.trans hg
    refine rf_seg C [(.iconst (-2147483648), 3)] (pc' := 263) (S' := ([(4, .int s0), (0, .ref 206), (2, .int a2), (3, .int a3), (5, .int a5)], [.int ((-2147483648))], rf_MM w m)) (by decide +kernel) rfl trivial ?_
    obtain rfl := Option.some.inj hg
    exact rf_iret C hE (by decide +kernel)
theorem s_X14_part_252 {w : rf_w} {K : rf_K} {r : Int32 × rf_m} (C : rf_Ctx 14 cX14_part 6 3 (rf_sh w) K) (hE : rf_End (some .int) K (rf_sh w) 0 0 (some (.int r.1)) (rf_MM w r.2)) (a2 : Int32) (a3 : Int32) (a5 : Int32) (m : rf_m) (hg : g_X14_part_252 w a2 a3 a5 m = some r) : rf_V 6 (rf_sh w) K 0 0 252 ([(0, .ref 206), (2, .int a2), (3, .int a3), (5, .int a5)], [], rf_MM w m) := by
  unfold g_X14_part_252 at hg
  refine rf_seg C [(.iconst 0, 1)] (pc' := 253) (S' := ([(0, .ref 206), (2, .int a2), (3, .int a3), (5, .int a5)], [.int 0], rf_MM w m)) (by decide +kernel) rfl trivial ?_
  refine rf_few [0, 1, 2, 3] rfl ?_
  exact s_X14_part_253 C hE a2 a3 a5 0 m hg
theorem s_X14_part_202 {w : rf_w} {K : rf_K} {r : Int32 × rf_m} (C : rf_Ctx 14 cX14_part 6 3 (rf_sh w) K) (hE : rf_End (some .int) K (rf_sh w) 0 0 (some (.int r.1)) (rf_MM w r.2)) (a2 : Int32) (a3 : Int32) (s0 : Int32) (m : rf_m) (hg : g_X14_part_202 w a2 a3 s0 m = some r) : rf_V 6 (rf_sh w) K 0 0 202 ([(0, .ref 206), (2, .int a2), (3, .int a3)], [.int s0], rf_MM w m) := by
  unfold g_X14_part_202 at hg
  refine rf_seg C [(.istore 4, 2), (.aload 0, 1)] (pc' := 205) (S' := ([(4, .int s0), (0, .ref 206), (2, .int a2), (3, .int a3)], [.ref 206], rf_MM w m)) (by decide +kernel) rfl trivial ?_
  obtain ⟨y0, m0, hc0, hg⟩ := rf_b_some hg
  refine rf_callv C rf_fit0 j_X14_quotientLong (ci := 14) (As := []) (rest := []) mw_X14_quotientLong (c_X14_quotientLong hc0) (by decide) rfl (by decide) lk_14_788 rfl rfl (Nat.le_of_ble_eq_true rfl) (by decide +kernel) ?_
  show rf_V 6 (rf_sh w) K 0 0 208 ([(4, .int s0), (0, .ref 206), (2, .int a2), (3, .int a3)], [.long y0], rf_MM w m0)
  refine rf_seg C [(.l2i, 1), (.istore 5, 2), (.aload 0, 1), (.aload 0, 1), (.invokeinterface 14 82, 3), (.iconst 0, 1), (.aload 0, 1), (.invokeinterface 14 92, 3), (.iconst 0, 1)] (pc' := 222) (S' := ([(5, .int (Int64.toInt32 y0)), (4, .int s0), (0, .ref 206), (2, .int a2), (3, .int a3)], [.int 0, .ref 267, .int 0, .ref 259, .ref 206], rf_MM w m0)) (by decide +kernel) rfl trivial ?_
  obtain ⟨m1, hc1, hg⟩ := rf_bv_some hg
  refine rf_callv C rf_fit0 j_X14_divides__259_267 (ci := 14) (As := [.ref 259, .int 0, .ref 267, .int 0]) (rest := []) mw_X14_divides__259_267 (c_X14_divides__259_267 hc1) (by decide) rfl (by decide) lk_14_759 rfl rfl (Nat.le_of_ble_eq_true rfl) (by decide +kernel) ?_
  show rf_V 6 (rf_sh w) K 0 0 225 ([(5, .int (Int64.toInt32 y0)), (4, .int s0), (0, .ref 206), (2, .int a2), (3, .int a3)], [], rf_MM w m1)
  refine rf_seg C [(.iload 4, 2)] (pc' := 227) (S' := ([(5, .int (Int64.toInt32 y0)), (4, .int s0), (0, .ref 206), (2, .int a2), (3, .int a3)], [.int s0], rf_MM w m1)) (by decide +kernel) rfl trivial ?_
  refine rf_if_eq C 25 252 (by decide +kernel) (fun hc => ?_) (fun hc => ?_)
  · replace hg := (if_pos hc).symm.trans hg
    refine rf_few [2, 3, 4, 0] rfl ?_
    exact s_X14_part_252 C hE a2 a3 (Int64.toInt32 y0) m1 hg
  · replace hg := (if_neg hc).symm.trans hg
    refine rf_seg C [(.aload 0, 1)] (pc' := 231) (S' := ([(5, .int (Int64.toInt32 y0)), (4, .int s0), (0, .ref 206), (2, .int a2), (3, .int a3)], [.ref 206], rf_MM w m1)) (by decide +kernel) rfl trivial ?_
    obtain ⟨y2, m2, hc2, hg⟩ := rf_b_some hg
    refine rf_callv C rf_fit0 j_X14_isLong (ci := 14) (As := []) (rest := []) mw_X14_isLong (c_X14_isLong hc2) (by decide) rfl (by decide) lk_14_785 rfl rfl (Nat.le_of_ble_eq_true rfl) (by decide +kernel) ?_
    show rf_V 6 (rf_sh w) K 0 0 234 ([(5, .int (Int64.toInt32 y0)), (4, .int s0), (0, .ref 206), (2, .int a2), (3, .int a3)], [.int y2], rf_MM w m2)
    refine rf_if_eq C 18 252 (by decide +kernel) (fun hc => ?_) (fun hc => ?_)
    · replace hg := (if_pos hc).symm.trans hg
      refine rf_few [2, 3, 4, 0] rfl ?_
      exact s_X14_part_252 C hE a2 a3 (Int64.toInt32 y0) m2 hg
    · replace hg := (if_neg hc).symm.trans hg
      refine rf_seg C [(.aload 0, 1)] (pc' := 238) (S' := ([(5, .int (Int64.toInt32 y0)), (4, .int s0), (0, .ref 206), (2, .int a2), (3, .int a3)], [.ref 206], rf_MM w m2)) (by decide +kernel) rfl trivial ?_
      obtain ⟨y3, m3, hc3, hg⟩ := rf_b_some hg
      refine rf_callv C rf_fit0 j_X14_quotientLong (ci := 14) (As := []) (rest := []) mw_X14_quotientLong (c_X14_quotientLong hc3) (by decide) rfl (by decide) lk_14_788 rfl rfl (Nat.le_of_ble_eq_true rfl) (by decide +kernel) ?_
      show rf_V 6 (rf_sh w) K 0 0 241 ([(5, .int (Int64.toInt32 y0)), (4, .int s0), (0, .ref 206), (2, .int a2), (3, .int a3)], [.long y3], rf_MM w m3)
      refine rf_seg C [(.goto_w 1000000000, 3), (.lcmp, 1)] (pc' := 245) (S' := ([(5, .int (Int64.toInt32 y0)), (4, .int s0), (0, .ref 206), (2, .int a2), (3, .int a3)], [.int (lg_cmp y3 1000000000)], rf_MM w m3)) (by decide +kernel) rfl trivial ?_
      refine rf_if_ge C 7 252 (by decide +kernel) (fun hc => ?_) (fun hc => ?_)
      · replace hg := (if_pos hc).symm.trans hg
        refine rf_few [2, 3, 4, 0] rfl ?_
        exact s_X14_part_252 C hE a2 a3 (Int64.toInt32 y0) m3 hg
      · replace hg := (if_neg hc).symm.trans hg
        refine rf_seg C [(.iconst 1, 1)] (pc' := 249) (S' := ([(5, .int (Int64.toInt32 y0)), (4, .int s0), (0, .ref 206), (2, .int a2), (3, .int a3)], [.int 1], rf_MM w m3)) (by decide +kernel) rfl trivial ?_
        refine rf_goto C 4 253 (by decide +kernel) ?_
        refine rf_few [2, 3, 4, 0] rfl ?_
        exact s_X14_part_253 C hE a2 a3 (Int64.toInt32 y0) 1 m3 hg
theorem s_X14_part_201 {w : rf_w} {K : rf_K} {r : Int32 × rf_m} (C : rf_Ctx 14 cX14_part 6 3 (rf_sh w) K) (hE : rf_End (some .int) K (rf_sh w) 0 0 (some (.int r.1)) (rf_MM w r.2)) (a2 : Int32) (a3 : Int32) (m : rf_m) (hg : g_X14_part_201 w a2 a3 m = some r) : rf_V 6 (rf_sh w) K 0 0 201 ([(0, .ref 206), (2, .int a2), (3, .int a3)], [], rf_MM w m) := by
  unfold g_X14_part_201 at hg
  refine rf_seg C [(.iconst 0, 1)] (pc' := 202) (S' := ([(0, .ref 206), (2, .int a2), (3, .int a3)], [.int 0], rf_MM w m)) (by decide +kernel) rfl trivial ?_
  refine rf_few [0, 1, 2] rfl ?_
  exact s_X14_part_202 C hE a2 a3 0 m hg
theorem s_X14_part_165 {w : rf_w} {K : rf_K} {r : Int32 × rf_m} (C : rf_Ctx 14 cX14_part 6 3 (rf_sh w) K) (hE : rf_End (some .int) K (rf_sh w) 0 0 (some (.int r.1)) (rf_MM w r.2)) (a2 : Int32) (a3 : Int32) (m : rf_m) (hg : g_X14_part_165 w a2 a3 m = some r) : rf_V 6 (rf_sh w) K 0 0 165 ([(0, .ref 206), (2, .int a2), (3, .int a3)], [], rf_MM w m) := by
  unfold g_X14_part_165 at hg
  refine rf_seg C [(.aload 0, 1), (.aload 0, 1), (.invokeinterface 14 91, 3), (.iconst 0, 1), (.aload 0, 1), (.invokeinterface 14 92, 3), (.iconst 0, 1)] (pc' := 176) (S' := ([(0, .ref 206), (2, .int a2), (3, .int a3)], [.int 0, .ref 267, .int 0, .ref 266, .ref 206], rf_MM w m)) (by decide +kernel) rfl trivial ?_
  obtain ⟨m0, hc0, hg⟩ := rf_bv_some hg
  refine rf_callv C rf_fit0 j_X14_divides__266_267 (ci := 14) (As := [.ref 266, .int 0, .ref 267, .int 0]) (rest := []) mw_X14_divides__266_267 (c_X14_divides__266_267 hc0) (by decide) rfl (by decide) lk_14_759 rfl rfl (Nat.le_of_ble_eq_true rfl) (by decide +kernel) ?_
  show rf_V 6 (rf_sh w) K 0 0 179 ([(0, .ref 206), (2, .int a2), (3, .int a3)], [], rf_MM w m0)
  refine rf_seg C [(.aload 0, 1)] (pc' := 180) (S' := ([(0, .ref 206), (2, .int a2), (3, .int a3)], [.ref 206], rf_MM w m0)) (by decide +kernel) rfl trivial ?_
  obtain ⟨y1, m1, hc1, hg⟩ := rf_b_some hg
  refine rf_callv C rf_fit0 j_X14_isLong (ci := 14) (As := []) (rest := []) mw_X14_isLong (c_X14_isLong hc1) (by decide) rfl (by decide) lk_14_785 rfl rfl (Nat.le_of_ble_eq_true rfl) (by decide +kernel) ?_
  show rf_V 6 (rf_sh w) K 0 0 183 ([(0, .ref 206), (2, .int a2), (3, .int a3)], [.int y1], rf_MM w m1)
  refine rf_if_eq C 18 201 (by decide +kernel) (fun hc => ?_) (fun hc => ?_)
  · replace hg := (if_pos hc).symm.trans hg
    refine rf_few [0, 1, 2] rfl ?_
    exact s_X14_part_201 C hE a2 a3 m1 hg
  · replace hg := (if_neg hc).symm.trans hg
    refine rf_seg C [(.aload 0, 1)] (pc' := 187) (S' := ([(0, .ref 206), (2, .int a2), (3, .int a3)], [.ref 206], rf_MM w m1)) (by decide +kernel) rfl trivial ?_
    obtain ⟨y2, m2, hc2, hg⟩ := rf_b_some hg
    refine rf_callv C rf_fit0 j_X14_quotientLong (ci := 14) (As := []) (rest := []) mw_X14_quotientLong (c_X14_quotientLong hc2) (by decide) rfl (by decide) lk_14_788 rfl rfl (Nat.le_of_ble_eq_true rfl) (by decide +kernel) ?_
    show rf_V 6 (rf_sh w) K 0 0 190 ([(0, .ref 206), (2, .int a2), (3, .int a3)], [.long y2], rf_MM w m2)
    refine rf_seg C [(.goto_w 1000000000, 3), (.lcmp, 1)] (pc' := 194) (S' := ([(0, .ref 206), (2, .int a2), (3, .int a3)], [.int (lg_cmp y2 1000000000)], rf_MM w m2)) (by decide +kernel) rfl trivial ?_
    refine rf_if_ge C 7 201 (by decide +kernel) (fun hc => ?_) (fun hc => ?_)
    · replace hg := (if_pos hc).symm.trans hg
      refine rf_few [0, 1, 2] rfl ?_
      exact s_X14_part_201 C hE a2 a3 m2 hg
    · replace hg := (if_neg hc).symm.trans hg
      refine rf_seg C [(.iconst 1, 1)] (pc' := 198) (S' := ([(0, .ref 206), (2, .int a2), (3, .int a3)], [.int 1], rf_MM w m2)) (by decide +kernel) rfl trivial ?_
      refine rf_goto C 4 202 (by decide +kernel) ?_
      refine rf_few [0, 1, 2] rfl ?_
      exact s_X14_part_202 C hE a2 a3 1 m2 hg
theorem s_X14_part_83_b {w : rf_w} {K : rf_K} {r : Int32 × rf_m} (C : rf_Ctx 14 cX14_part 6 3 (rf_sh w) K) (hE : rf_End (some .int) K (rf_sh w) 0 0 (some (.int r.1)) (rf_MM w r.2)) {rec83 : Int32 → Int32 → Int32 → rf_m → Option (Int32 × rf_m)} (hr83 : ∀ (a1 : Int32) (a2 : Int32) (a3 : Int32) (m : rf_m), rec83 a1 a2 a3 m = some r → rf_V 6 (rf_sh w) K 0 0 83 ([(0, .ref 206), (1, .int a1), (2, .int a2), (3, .int a3)], [], rf_MM w m)) (a1 : Int32) (a2 : Int32) (a3 : Int32) (m : rf_m) (hg : g_X14_part_83_b w rec83 a1 a2 a3 m = some r) : rf_V 6 (rf_sh w) K 0 0 83 ([(0, .ref 206), (1, .int a1), (2, .int a2), (3, .int a3)], [], rf_MM w m) := by
  unfold g_X14_part_83_b at hg
  refine rf_seg C [(.aload 0, 1), (.invokeinterface 14 91, 3), (.iconst 0, 1)] (pc' := 88) (S' := ([(0, .ref 206), (1, .int a1), (2, .int a2), (3, .int a3)], [.int 0, .ref 266], rf_MM w m)) (by decide +kernel) rfl trivial ?_
  obtain ⟨y0, m0, hc0, hg⟩ := rf_b_some hg
  refine rf_calls C rf_fit0 j_X14_isZero__266 (As := [.ref 266, .int 0]) (rest := []) mw_X14_isZero__266 (c_X14_isZero__266 hc0) (by decide) lk_14_762 rfl rfl (Nat.le_of_ble_eq_true rfl) (by decide +kernel) ?_
  show rf_V 6 (rf_sh w) K 0 0 91 ([(0, .ref 206), (1, .int a1), (2, .int a2), (3, .int a3)], [.int y0], rf_MM w m0)
  refine rf_if_ne C 46 137 (by decide +kernel) (fun hc => ?_) (fun hc => ?_)
  · replace hg := (if_neg hc).symm.trans hg
    refine rf_seg C [(.aload 0, 1), (.invokeinterface 14 91, 3), (.iconst 0, 1), (.aload 0, 1), (.invokeinterface 14 87, 3), (.iconst 6, 2), (.iload 1, 1), (.imul, 1)] (pc' := 150) (S' := ([(0, .ref 206), (1, .int a1), (2, .int a2), (3, .int a3)], [.int (6 * a1), .ref 264, .int 0, .ref 266], rf_MM w m0)) (by decide +kernel) rfl trivial ?_
    obtain ⟨m1, hc1, hg⟩ := rf_bv_some hg
    refine rf_calls C rf_fit0 j_X14_copies__266_264 (As := [.ref 266, .int 0, .ref 264, .int (6 * a1)]) (rest := []) mw_X14_copies__266_264 (c_X14_copies__266_264 hc1) (by decide) lk_14_744 rfl rfl (Nat.le_of_ble_eq_true rfl) (by decide +kernel) ?_
    show rf_V 6 (rf_sh w) K 0 0 153 ([(0, .ref 206), (1, .int a1), (2, .int a2), (3, .int a3)], [], rf_MM w m1)
    refine rf_seg C [(.iload 3, 1)] (pc' := 154) (S' := ([(0, .ref 206), (1, .int a1), (2, .int a2), (3, .int a3)], [.int a3], rf_MM w m1)) (by decide +kernel) rfl trivial ?_
    refine rf_if_eq C 11 165 (by decide +kernel) (fun hc => ?_) (fun hc => ?_)
    · replace hg := (if_pos hc).symm.trans hg
      refine rf_few [0, 2, 3] rfl ?_
      exact s_X14_part_165 C hE a2 a3 m1 hg
    · replace hg := (if_neg hc).symm.trans hg
      refine rf_seg C [(.aload 0, 1), (.invokeinterface 14 91, 3), (.iconst 0, 1)] (pc' := 162) (S' := ([(0, .ref 206), (1, .int a1), (2, .int a2), (3, .int a3)], [.int 0, .ref 266], rf_MM w m1)) (by decide +kernel) rfl trivial ?_
      obtain ⟨m2, hc2, hg⟩ := rf_bv_some hg
      refine rf_calls C rf_fit0 j_X14_turns__266 (As := [.ref 266, .int 0]) (rest := []) mw_X14_turns__266 (c_X14_turns__266 hc2) (by decide) lk_14_736 rfl rfl (Nat.le_of_ble_eq_true rfl) (by decide +kernel) ?_
      show rf_V 6 (rf_sh w) K 0 0 165 ([(0, .ref 206), (1, .int a1), (2, .int a2), (3, .int a3)], [], rf_MM w m2)
      refine rf_few [0, 2, 3] rfl ?_
      exact s_X14_part_165 C hE a2 a3 m2 hg
  · replace hg := (if_pos hc).symm.trans hg
    refine rf_seg C [(.aload 0, 1), (.aload 0, 1), (.invokeinterface 14 92, 3), (.iconst 0, 1), (.aload 0, 1), (.invokeinterface 14 91, 3), (.iconst 0, 1)] (pc' := 105) (S' := ([(0, .ref 206), (1, .int a1), (2, .int a2), (3, .int a3)], [.int 0, .ref 266, .int 0, .ref 267, .ref 206], rf_MM w m0)) (by decide +kernel) rfl trivial ?_
    obtain ⟨m3, hc3, hg⟩ := rf_bv_some hg
    refine rf_callv C rf_fit0 j_X14_divides__267_266 (ci := 14) (As := [.ref 267, .int 0, .ref 266, .int 0]) (rest := []) mw_X14_divides__267_266 (c_X14_divides__267_266 hc3) (by decide) rfl (by decide) lk_14_759 rfl rfl (Nat.le_of_ble_eq_true rfl) (by decide +kernel) ?_
    show rf_V 6 (rf_sh w) K 0 0 108 ([(0, .ref 206), (1, .int a1), (2, .int a2), (3, .int a3)], [], rf_MM w m3)
    refine rf_seg C [(.aload 0, 1), (.invokeinterface 14 92, 3), (.iconst 0, 1), (.aload 0, 1), (.invokeinterface 14 91, 3), (.iconst 0, 1)] (pc' := 118) (S' := ([(0, .ref 206), (1, .int a1), (2, .int a2), (3, .int a3)], [.int 0, .ref 266, .int 0, .ref 267], rf_MM w m3)) (by decide +kernel) rfl trivial ?_
    obtain ⟨m4, hc4, hg⟩ := rf_bv_some hg
    refine rf_calls C rf_fit0 j_X14_copies__267_266 (As := [.ref 267, .int 0, .ref 266, .int 0]) (rest := []) mw_X14_copies__267_266 (c_X14_copies__267_266 hc4) (by decide) lk_14_744 rfl rfl (Nat.le_of_ble_eq_true rfl) (by decide +kernel) ?_
    show rf_V 6 (rf_sh w) K 0 0 121 ([(0, .ref 206), (1, .int a1), (2, .int a2), (3, .int a3)], [], rf_MM w m4)
    refine rf_seg C [(.aload 0, 1), (.invokeinterface 14 91, 3), (.iconst 0, 1), (.aload 0, 1), (.invokeinterface 14 73, 3), (.iconst 0, 1)] (pc' := 131) (S' := ([(0, .ref 206), (1, .int a1), (2, .int a2), (3, .int a3)], [.int 0, .ref 250, .int 0, .ref 266], rf_MM w m4)) (by decide +kernel) rfl trivial ?_
    obtain ⟨m5, hc5, hg⟩ := rf_bv_some hg
    refine rf_calls C rf_fit0 j_X14_copies__266_250 (As := [.ref 266, .int 0, .ref 250, .int 0]) (rest := []) mw_X14_copies__266_250 (c_X14_copies__266_250 hc5) (by decide) lk_14_744 rfl rfl (Nat.le_of_ble_eq_true rfl) (by decide +kernel) ?_
    show rf_V 6 (rf_sh w) K 0 0 134 ([(0, .ref 206), (1, .int a1), (2, .int a2), (3, .int a3)], [], rf_MM w m5)
    refine rf_goto C (-51) 83 (by decide +kernel) ?_
    refine rf_few [0, 1, 2, 3] rfl ?_
    exact hr83 a1 a2 a3 m5 hg
theorem s_X14_part_83 {w : rf_w} {K : rf_K} {r : Int32 × rf_m} (C : rf_Ctx 14 cX14_part 6 3 (rf_sh w) K) (hE : rf_End (some .int) K (rf_sh w) 0 0 (some (.int r.1)) (rf_MM w r.2)) (n : Nat) : ∀ (a1 : Int32) (a2 : Int32) (a3 : Int32) (m : rf_m), g_X14_part_83 w n a1 a2 a3 m = some r → rf_V 6 (rf_sh w) K 0 0 83 ([(0, .ref 206), (1, .int a1), (2, .int a2), (3, .int a3)], [], rf_MM w m) := by
  induction n with
  | zero => intro a1 a2 a3 m hg; cases hg
  | succ n ih => intro a1 a2 a3 m hg; exact s_X14_part_83_b C hE ih a1 a2 a3 m hg
theorem s_X14_part_70 {w : rf_w} {K : rf_K} {r : Int32 × rf_m} (C : rf_Ctx 14 cX14_part 6 3 (rf_sh w) K) (hE : rf_End (some .int) K (rf_sh w) 0 0 (some (.int r.1)) (rf_MM w r.2)) (a1 : Int32) (a2 : Int32) (a3 : Int32) (m : rf_m) (hg : g_X14_part_70 w a1 a2 a3 m = some r) : rf_V 6 (rf_sh w) K 0 0 70 ([(0, .ref 206), (1, .int a1), (2, .int a2), (3, .int a3)], [], rf_MM w m) := by
  unfold g_X14_part_70 at hg
  refine rf_seg C [(.aload 0, 1), (.invokeinterface 14 92, 3), (.iconst 0, 1), (.aload 0, 1), (.invokeinterface 14 82, 3), (.iconst 0, 1)] (pc' := 80) (S' := ([(0, .ref 206), (1, .int a1), (2, .int a2), (3, .int a3)], [.int 0, .ref 259, .int 0, .ref 267], rf_MM w m)) (by decide +kernel) rfl trivial ?_
  obtain ⟨m0, hc0, hg⟩ := rf_bv_some hg
  refine rf_calls C rf_fit0 j_X14_copies__267_259 (As := [.ref 267, .int 0, .ref 259, .int 0]) (rest := []) mw_X14_copies__267_259 (c_X14_copies__267_259 hc0) (by decide) lk_14_744 rfl rfl (Nat.le_of_ble_eq_true rfl) (by decide +kernel) ?_
  show rf_V 6 (rf_sh w) K 0 0 83 ([(0, .ref 206), (1, .int a1), (2, .int a2), (3, .int a3)], [], rf_MM w m0)
  refine rf_few [0, 1, 2, 3] rfl ?_
  exact s_X14_part_83 C hE rf_fuel a1 a2 a3 m0 hg
theorem c_X14_part {w : rf_w} {m : rf_m} {a1 : Int32} {a2 : Int32} {r : Int32 × rf_m} (hg : g_X14_part w m a1 a2 = some r) : rf_Con j_X14_part 3 (rf_sh w) [.ref 206, .int a1, .int a2] (rf_MM w m) (some (.int r.1)) (rf_MM w r.2) := by
  refine rf_con j_X14_part 3 ⟨by decide +kernel, rfl, Nat.le_of_ble_eq_true rfl⟩ (fun K C hE => ?_)
  unfold g_X14_part at hg
  show rf_V 6 (rf_sh w) K 0 0 0 ([(0, .ref 206), (1, .int a1), (2, .int a2)], [], rf_MM w m)
  refine rf_seg C [(.aload 0, 1), (.iconst 0, 1), (.multianewarray 14 0, 3), (.aload 0, 1), (.iload 1, 1)] (pc' := 7) (S' := ([(0, .ref 206), (1, .int a1), (2, .int a2)], [.int a1, .ref 206], rf_MM w (rf_i m 206 0 0))) (by decide +kernel) rfl trivial ?_
  obtain ⟨y0, m0, hc0, hg⟩ := rf_b_some hg
  refine rf_callv C rf_fit0 j_X14_isAngle (ci := 14) (As := [.int a1]) (rest := []) mw_X14_isAngle (c_X14_isAngle hc0) (by decide) rfl (by decide) lk_14_402 rfl rfl (Nat.le_of_ble_eq_true rfl) (by decide +kernel) ?_
  show rf_V 6 (rf_sh w) K 0 0 10 ([(0, .ref 206), (1, .int a1), (2, .int a2)], [.int y0], rf_MM w m0)
  refine rf_if_eq C 19 29 (by decide +kernel) (fun hc => ?_) (fun hc => ?_)
  · replace hg := (if_pos hc).symm.trans hg
    refine rf_seg C [(.iconst (-2147483648), 3)] (pc' := 32) (S' := ([(0, .ref 206), (1, .int a1), (2, .int a2)], [.int ((-2147483648))], rf_MM w m0)) (by decide +kernel) rfl trivial ?_
    obtain rfl := Option.some.inj hg
    exact rf_iret C hE (by decide +kernel)
  · replace hg := (if_neg hc).symm.trans hg
    refine rf_seg C [(.aload 0, 1), (.invokeinterface 14 88, 3)] (pc' := 17) (S' := ([(0, .ref 206), (1, .int a1), (2, .int a2)], [.int (m0.1 206 88)], rf_MM w m0)) (by decide +kernel) rfl trivial ?_
    refine rf_if_eq C 12 29 (by decide +kernel) (fun hc => ?_) (fun hc => ?_)
    · replace hg := (if_pos hc).symm.trans hg
      refine rf_seg C [(.iconst (-2147483648), 3)] (pc' := 32) (S' := ([(0, .ref 206), (1, .int a1), (2, .int a2)], [.int ((-2147483648))], rf_MM w m0)) (by decide +kernel) rfl trivial ?_
      obtain rfl := Option.some.inj hg
      exact rf_iret C hE (by decide +kernel)
    · replace hg := (if_neg hc).symm.trans hg
      obtain ⟨q1, hg⟩ := rf_g_some hg
      refine rf_seg C [(.aload 0, 1), (.invokeinterface 14 86, 3), (.iload 1, 1), (.baload, 1)] (pc' := 26) (S' := ([(0, .ref 206), (1, .int a1), (2, .int a2)], [.int (m0.1 263 (Int32.toNatClampNeg a1))], rf_MM w m0)) (by decide +kernel) rfl (rf_in_of q1) ?_
      refine rf_if_ne C 7 33 (by decide +kernel) (fun hc => ?_) (fun hc => ?_)
      · replace hg := (if_neg hc).symm.trans hg
        refine rf_seg C [(.aload 0, 1), (.invokeinterface 14 91, 3), (.iconst 0, 1), (.aload 0, 1), (.invokeinterface 14 87, 3), (.iconst 6, 2), (.iload 1, 1), (.imul, 1)] (pc' := 46) (S' := ([(0, .ref 206), (1, .int a1), (2, .int a2)], [.int (6 * a1), .ref 264, .int 0, .ref 266], rf_MM w m0)) (by decide +kernel) rfl trivial ?_
        obtain ⟨m2, hc2, hg⟩ := rf_bv_some hg
        refine rf_calls C rf_fit0 j_X14_copies__266_264 (As := [.ref 266, .int 0, .ref 264, .int (6 * a1)]) (rest := []) mw_X14_copies__266_264 (c_X14_copies__266_264 hc2) (by decide) lk_14_744 rfl rfl (Nat.le_of_ble_eq_true rfl) (by decide +kernel) ?_
        show rf_V 6 (rf_sh w) K 0 0 49 ([(0, .ref 206), (1, .int a1), (2, .int a2)], [], rf_MM w m2)
        refine rf_seg C [(.aload 0, 1), (.invokeinterface 14 91, 3), (.iconst 0, 1)] (pc' := 54) (S' := ([(0, .ref 206), (1, .int a1), (2, .int a2)], [.int 0, .ref 266], rf_MM w m2)) (by decide +kernel) rfl trivial ?_
        obtain ⟨y3, m3, hc3, hg⟩ := rf_b_some hg
        refine rf_calls C rf_fit0 j_X14_isBelow__266 (As := [.ref 266, .int 0]) (rest := []) mw_X14_isBelow__266 (c_X14_isBelow__266 hc3) (by decide) lk_14_755 rfl rfl (Nat.le_of_ble_eq_true rfl) (by decide +kernel) ?_
        show rf_V 6 (rf_sh w) K 0 0 57 ([(0, .ref 206), (1, .int a1), (2, .int a2)], [.int y3], rf_MM w m3)
        refine rf_seg C [(.istore 3, 1), (.iload 3, 1)] (pc' := 59) (S' := ([(3, .int y3), (0, .ref 206), (1, .int a1), (2, .int a2)], [.int y3], rf_MM w m3)) (by decide +kernel) rfl trivial ?_
        refine rf_if_eq C 11 70 (by decide +kernel) (fun hc => ?_) (fun hc => ?_)
        · replace hg := (if_pos hc).symm.trans hg
          refine rf_few [1, 2, 3, 0] rfl ?_
          exact s_X14_part_70 C hE a1 a2 y3 m3 hg
        · replace hg := (if_neg hc).symm.trans hg
          refine rf_seg C [(.aload 0, 1), (.invokeinterface 14 91, 3), (.iconst 0, 1)] (pc' := 67) (S' := ([(3, .int y3), (0, .ref 206), (1, .int a1), (2, .int a2)], [.int 0, .ref 266], rf_MM w m3)) (by decide +kernel) rfl trivial ?_
          obtain ⟨m4, hc4, hg⟩ := rf_bv_some hg
          refine rf_calls C rf_fit0 j_X14_turns__266 (As := [.ref 266, .int 0]) (rest := []) mw_X14_turns__266 (c_X14_turns__266 hc4) (by decide) lk_14_736 rfl rfl (Nat.le_of_ble_eq_true rfl) (by decide +kernel) ?_
          show rf_V 6 (rf_sh w) K 0 0 70 ([(3, .int y3), (0, .ref 206), (1, .int a1), (2, .int a2)], [], rf_MM w m4)
          refine rf_few [1, 2, 3, 0] rfl ?_
          exact s_X14_part_70 C hE a1 a2 y3 m4 hg
      · replace hg := (if_pos hc).symm.trans hg
        refine rf_seg C [(.iconst (-2147483648), 3)] (pc' := 32) (S' := ([(0, .ref 206), (1, .int a1), (2, .int a2)], [.int ((-2147483648))], rf_MM w m0)) (by decide +kernel) rfl trivial ?_
        obtain rfl := Option.some.inj hg
        exact rf_iret C hE (by decide +kernel)
-- X14_cost
abbrev j_X14_cost : rf_J := (14, yX14_cost, cX14_cost, 1, (some .long))
theorem mw_X14_cost : rf_mv j_X14_cost (rf_R 14) 0 := ⟨⟨rf_mem 74 (by decide +kernel), rf_mem 74 (by decide +kernel), rf_mem 0 (by decide +kernel), rf_mem 74 (by decide +kernel)⟩, by decide +kernel, by decide⟩
def g_X14_cost (w : rf_w) (m : rf_m) : Option (Int64 × rf_m) := some ((rf_i m 206 0 0).2 206 89, rf_i m 206 0 0)
theorem c_X14_cost {w : rf_w} {m : rf_m} {r : Int64 × rf_m} (hg : g_X14_cost w m = some r) : rf_Con j_X14_cost 1 (rf_sh w) [.ref 206] (rf_MM w m) (some (.long r.1)) (rf_MM w r.2) := by
  refine rf_con j_X14_cost 1 ⟨by decide +kernel, rfl, Nat.le_of_ble_eq_true rfl⟩ (fun K C hE => ?_)
  unfold g_X14_cost at hg
  show rf_V 1 (rf_sh w) K 0 0 0 ([(0, .ref 206)], [], rf_MM w m)
  refine rf_seg C [(.aload 0, 1), (.iconst 0, 1), (.multianewarray 14 0, 3), (.aload 0, 1), (.invokeinterface 14 89, 3)] (pc' := 9) (S' := ([(0, .ref 206)], [.long ((rf_i m 206 0 0).2 206 89)], rf_MM w (rf_i m 206 0 0))) (by decide +kernel) rfl trivial ?_
  obtain rfl := Option.some.inj hg
  exact rf_lret C hE (by decide +kernel)
