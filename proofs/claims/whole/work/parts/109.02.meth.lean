/-! methods as functions, and their contracts (written by wip/tool/gen.py) -/
-- X14_isNoLess__250_267
abbrev j_X14_isNoLess__250_267 : rf_J := (14, yX14_isNoLess, cX14_isNoLess, 9, (some .boolean))
theorem mw_X14_isNoLess__250_267 : rf_ms j_X14_isNoLess__250_267 4 := ⟨⟨rf_mem 72 (by decide +kernel), rf_mem 0 (by decide +kernel), rf_mem 72 (by decide +kernel)⟩, by decide +kernel, by decide⟩
def g_X14_isNoLess__250_267_3_b (w : rf_w) (rec3 : Int32 → Int32 → Int32 → rf_m → Option (Int32 × rf_m)) (a1 : Int32) (a3 : Int32) (a4 : Int32) (m : rf_m) : Option (Int32 × rf_m) := (if a4 < 0 then some (1, m) else rf_g (rf_in (a1 + a4) 6) (rf_vl ((Int32.toInt64 (m.1 250 (Int32.toNatClampNeg (a1 + a4)))) &&& 4294967295) fun x1 => rf_g (rf_in (a3 + a4) 6) (rf_vl ((Int32.toInt64 (m.1 267 (Int32.toNatClampNeg (a3 + a4)))) &&& 4294967295) fun x3 => (if (lg_cmp x1 x3) = 0 then rec3 a1 a3 (a4 + (-1)) m else (if (lg_cmp x1 x3) ≤ 0 then some (0, m) else some (1, m))))))
def g_X14_isNoLess__250_267_3 (w : rf_w) : Nat → Int32 → Int32 → Int32 → rf_m → Option (Int32 × rf_m)
  | 0, _, _, _, _ => none
  | n + 1, a1, a3, a4, m => g_X14_isNoLess__250_267_3_b w (g_X14_isNoLess__250_267_3 w n) a1 a3 a4 m
def g_X14_isNoLess__250_267 (w : rf_w) (m : rf_m) (a1 : Int32) (a3 : Int32) : Option (Int32 × rf_m) := g_X14_isNoLess__250_267_3 w rf_fuel a1 a3 5 m
theorem s_X14_isNoLess__250_267_3_b {w : rf_w} {K : rf_K} {r : Int32 × rf_m} (C : rf_Ctx 14 cX14_isNoLess 9 1 (rf_sh w) K) (hE : rf_End (some .boolean) K (rf_sh w) 0 0 (some (.int r.1)) (rf_MM w r.2)) {rec3 : Int32 → Int32 → Int32 → rf_m → Option (Int32 × rf_m)} (hr3 : ∀ (a1 : Int32) (a3 : Int32) (a4 : Int32) (m : rf_m), rec3 a1 a3 a4 m = some r → rf_V 9 (rf_sh w) K 0 0 3 ([(0, .ref 250), (1, .int a1), (2, .ref 267), (3, .int a3), (4, .int a4)], [], rf_MM w m)) (a1 : Int32) (a3 : Int32) (a4 : Int32) (m : rf_m) (hg : g_X14_isNoLess__250_267_3_b w rec3 a1 a3 a4 m = some r) : rf_V 9 (rf_sh w) K 0 0 3 ([(0, .ref 250), (1, .int a1), (2, .ref 267), (3, .int a3), (4, .int a4)], [], rf_MM w m) := by
  unfold g_X14_isNoLess__250_267_3_b at hg
  refine rf_seg C [(.iload 4, 2)] (pc' := 5) (S' := ([(0, .ref 250), (1, .int a1), (2, .ref 267), (3, .int a3), (4, .int a4)], [.int a4], rf_MM w m)) (by decide +kernel) rfl trivial ?_
  refine rf_if_lt C 57 62 (by decide +kernel) (fun hc => ?_) (fun hc => ?_)
  · replace hg := (if_pos hc).symm.trans hg
    refine rf_seg C [(.iconst 1, 1)] (pc' := 63) (S' := ([(0, .ref 250), (1, .int a1), (2, .ref 267), (3, .int a3), (4, .int a4)], [.int 1], rf_MM w m)) (by decide +kernel) rfl trivial ?_
    obtain rfl := Option.some.inj hg
    exact rf_zret C hE (by decide) (by decide +kernel)
  · replace hg := (if_neg hc).symm.trans hg
    obtain ⟨q0, hg⟩ := rf_g_some hg
    refine rf_seg C [(.aload 0, 1), (.iload 1, 1), (.iload 4, 2), (.iadd, 1), (.iaload, 1), (.i2l, 1), (.goto_w 4294967295, 3), (.land, 1)] (pc' := 19) (S' := ([(0, .ref 250), (1, .int a1), (2, .ref 267), (3, .int a3), (4, .int a4)], [.long ((Int32.toInt64 (m.1 250 (Int32.toNatClampNeg (a1 + a4)))) &&& 4294967295)], rf_MM w m)) (by decide +kernel) rfl (rf_in_of q0) ?_
    obtain ⟨x1, hx1, hg⟩ := rf_vl_some hg
    refine rf_vl_top hx1 ?_
    obtain ⟨q2, hg⟩ := rf_g_some hg
    refine rf_seg C [(.lstore 5, 2), (.aload 2, 1), (.iload 3, 1), (.iload 4, 2), (.iadd, 1), (.iaload, 1), (.i2l, 1), (.goto_w 4294967295, 3), (.land, 1)] (pc' := 32) (S' := ([(5, .long x1), (0, .ref 250), (1, .int a1), (2, .ref 267), (3, .int a3), (4, .int a4)], [.long ((Int32.toInt64 (m.1 267 (Int32.toNatClampNeg (a3 + a4)))) &&& 4294967295)], rf_MM w m)) (by decide +kernel) rfl (rf_in_of q2) ?_
    obtain ⟨x3, hx3, hg⟩ := rf_vl_some hg
    refine rf_vl_top hx3 ?_
    refine rf_seg C [(.lstore 7, 2), (.lload 5, 2), (.lload 7, 2), (.lcmp, 1)] (pc' := 39) (S' := ([(7, .long x3), (5, .long x1), (0, .ref 250), (1, .int a1), (2, .ref 267), (3, .int a3), (4, .int a4)], [.int (lg_cmp x1 x3)], rf_MM w m)) (by decide +kernel) rfl trivial ?_
    refine rf_if_eq C 17 56 (by decide +kernel) (fun hc => ?_) (fun hc => ?_)
    · replace hg := (if_pos hc).symm.trans hg
      refine rf_seg C [(.iinc 4 (-1), 3)] (pc' := 59) (S' := ([(4, .int (a4 + (-1))), (7, .long x3), (5, .long x1), (0, .ref 250), (1, .int a1), (2, .ref 267), (3, .int a3)], [], rf_MM w m)) (by decide +kernel) rfl trivial ?_
      refine rf_goto C (-56) 3 (by decide +kernel) ?_
      refine rf_few [3, 4, 5, 6, 0] rfl ?_
      exact hr3 a1 a3 (a4 + (-1)) m hg
    · replace hg := (if_neg hc).symm.trans hg
      refine rf_seg C [(.lload 5, 2), (.lload 7, 2), (.lcmp, 1)] (pc' := 47) (S' := ([(7, .long x3), (5, .long x1), (0, .ref 250), (1, .int a1), (2, .ref 267), (3, .int a3), (4, .int a4)], [.int (lg_cmp x1 x3)], rf_MM w m)) (by decide +kernel) rfl trivial ?_
      refine rf_if_le C 7 54 (by decide +kernel) (fun hc => ?_) (fun hc => ?_)
      · replace hg := (if_pos hc).symm.trans hg
        refine rf_seg C [(.iconst 0, 1)] (pc' := 55) (S' := ([(7, .long x3), (5, .long x1), (0, .ref 250), (1, .int a1), (2, .ref 267), (3, .int a3), (4, .int a4)], [.int 0], rf_MM w m)) (by decide +kernel) rfl trivial ?_
        obtain rfl := Option.some.inj hg
        exact rf_zret C hE (by decide) (by decide +kernel)
      · replace hg := (if_neg hc).symm.trans hg
        refine rf_seg C [(.iconst 1, 1)] (pc' := 51) (S' := ([(7, .long x3), (5, .long x1), (0, .ref 250), (1, .int a1), (2, .ref 267), (3, .int a3), (4, .int a4)], [.int 1], rf_MM w m)) (by decide +kernel) rfl trivial ?_
        refine rf_goto C 4 55 (by decide +kernel) ?_
        obtain rfl := Option.some.inj hg
        exact rf_zret C hE (by decide) (by decide +kernel)
theorem s_X14_isNoLess__250_267_3 {w : rf_w} {K : rf_K} {r : Int32 × rf_m} (C : rf_Ctx 14 cX14_isNoLess 9 1 (rf_sh w) K) (hE : rf_End (some .boolean) K (rf_sh w) 0 0 (some (.int r.1)) (rf_MM w r.2)) (n : Nat) : ∀ (a1 : Int32) (a3 : Int32) (a4 : Int32) (m : rf_m), g_X14_isNoLess__250_267_3 w n a1 a3 a4 m = some r → rf_V 9 (rf_sh w) K 0 0 3 ([(0, .ref 250), (1, .int a1), (2, .ref 267), (3, .int a3), (4, .int a4)], [], rf_MM w m) := by
  induction n with
  | zero => intro a1 a3 a4 m hg; cases hg
  | succ n ih => intro a1 a3 a4 m hg; exact s_X14_isNoLess__250_267_3_b C hE ih a1 a3 a4 m hg
theorem c_X14_isNoLess__250_267 {w : rf_w} {m : rf_m} {a1 : Int32} {a3 : Int32} {r : Int32 × rf_m} (hg : g_X14_isNoLess__250_267 w m a1 a3 = some r) : rf_Con j_X14_isNoLess__250_267 1 (rf_sh w) [.ref 250, .int a1, .ref 267, .int a3] (rf_MM w m) (some (.int r.1)) (rf_MM w r.2) := by
  refine rf_con j_X14_isNoLess__250_267 1 ⟨by decide +kernel, rfl, Nat.le_of_ble_eq_true rfl⟩ (fun K C hE => ?_)
  unfold g_X14_isNoLess__250_267 at hg
  show rf_V 9 (rf_sh w) K 0 0 0 ([(0, .ref 250), (1, .int a1), (2, .ref 267), (3, .int a3)], [], rf_MM w m)
  refine rf_seg C [(.iconst 5, 1), (.istore 4, 2)] (pc' := 3) (S' := ([(4, .int 5), (0, .ref 250), (1, .int a1), (2, .ref 267), (3, .int a3)], [], rf_MM w m)) (by decide +kernel) rfl trivial ?_
  refine rf_few [1, 2, 3, 4, 0] rfl ?_
  exact s_X14_isNoLess__250_267_3 C hE rf_fuel a1 a3 5 m hg
-- X14_copies__251_267
abbrev j_X14_copies__251_267 : rf_J := (14, yX14_copies, cX14_copies, 5, none)
theorem mw_X14_copies__251_267 : rf_ms j_X14_copies__251_267 4 := ⟨⟨rf_mem 71 (by decide +kernel), rf_mem 0 (by decide +kernel), rf_mem 71 (by decide +kernel)⟩, by decide +kernel, by decide⟩
def g_X14_copies__251_267_3_b (w : rf_w) (rec3 : Int32 → Int32 → Int32 → rf_m → Option (rf_m)) (a1 : Int32) (a3 : Int32) (a4 : Int32) (m : rf_m) : Option (rf_m) := (if 6 ≤ a4 then some m else rf_g (rf_in (a3 + a4) 6) (rf_g (rf_in (a1 + a4) 6) (rec3 a1 a3 (a4 + 1) (rf_i m 251 (Int32.toNatClampNeg (a1 + a4)) (m.1 267 (Int32.toNatClampNeg (a3 + a4)))))))
def g_X14_copies__251_267_3 (w : rf_w) : Nat → Int32 → Int32 → Int32 → rf_m → Option (rf_m)
  | 0, _, _, _, _ => none
  | n + 1, a1, a3, a4, m => g_X14_copies__251_267_3_b w (g_X14_copies__251_267_3 w n) a1 a3 a4 m
def g_X14_copies__251_267 (w : rf_w) (m : rf_m) (a1 : Int32) (a3 : Int32) : Option (rf_m) := g_X14_copies__251_267_3 w rf_fuel a1 a3 0 m
theorem s_X14_copies__251_267_3_b {w : rf_w} {K : rf_K} {r : rf_m} (C : rf_Ctx 14 cX14_copies 5 1 (rf_sh w) K) (hE : rf_End none K (rf_sh w) 0 0 none (rf_MM w r)) {rec3 : Int32 → Int32 → Int32 → rf_m → Option (rf_m)} (hr3 : ∀ (a1 : Int32) (a3 : Int32) (a4 : Int32) (m : rf_m), rec3 a1 a3 a4 m = some r → rf_V 5 (rf_sh w) K 0 0 3 ([(0, .ref 251), (1, .int a1), (2, .ref 267), (3, .int a3), (4, .int a4)], [], rf_MM w m)) (a1 : Int32) (a3 : Int32) (a4 : Int32) (m : rf_m) (hg : g_X14_copies__251_267_3_b w rec3 a1 a3 a4 m = some r) : rf_V 5 (rf_sh w) K 0 0 3 ([(0, .ref 251), (1, .int a1), (2, .ref 267), (3, .int a3), (4, .int a4)], [], rf_MM w m) := by
  unfold g_X14_copies__251_267_3_b at hg
  refine rf_seg C [(.iload 4, 2), (.iconst 6, 2)] (pc' := 7) (S' := ([(0, .ref 251), (1, .int a1), (2, .ref 267), (3, .int a3), (4, .int a4)], [.int 6, .int a4], rf_MM w m)) (by decide +kernel) rfl trivial ?_
  refine rf_icmp_ge C 21 28 (by decide +kernel) (fun hc => ?_) (fun hc => ?_)
  · replace hg := (if_pos hc).symm.trans hg
    obtain rfl := Option.some.inj hg
    exact rf_vret C hE (by decide +kernel)
  · replace hg := (if_neg hc).symm.trans hg
    obtain ⟨q0, hg⟩ := rf_g_some hg
    obtain ⟨q1, hg⟩ := rf_g_some hg
    refine rf_seg C [(.aload 0, 1), (.iload 1, 1), (.iload 4, 2), (.iadd, 1), (.aload 2, 1), (.iload 3, 1), (.iload 4, 2), (.iadd, 1), (.iaload, 1), (.iastore, 1), (.iinc 4 1, 3)] (pc' := 25) (S' := ([(4, .int (a4 + 1)), (0, .ref 251), (1, .int a1), (2, .ref 267), (3, .int a3)], [], rf_MM w (rf_i m 251 (Int32.toNatClampNeg (a1 + a4)) (m.1 267 (Int32.toNatClampNeg (a3 + a4)))))) (by decide +kernel) rfl (by exact ⟨(rf_in_of q0), (rf_in_of q1)⟩) ?_
    refine rf_goto C (-22) 3 (by decide +kernel) ?_
    refine rf_few [1, 2, 3, 4, 0] rfl ?_
    exact hr3 a1 a3 (a4 + 1) (rf_i m 251 (Int32.toNatClampNeg (a1 + a4)) (m.1 267 (Int32.toNatClampNeg (a3 + a4)))) hg
theorem s_X14_copies__251_267_3 {w : rf_w} {K : rf_K} {r : rf_m} (C : rf_Ctx 14 cX14_copies 5 1 (rf_sh w) K) (hE : rf_End none K (rf_sh w) 0 0 none (rf_MM w r)) (n : Nat) : ∀ (a1 : Int32) (a3 : Int32) (a4 : Int32) (m : rf_m), g_X14_copies__251_267_3 w n a1 a3 a4 m = some r → rf_V 5 (rf_sh w) K 0 0 3 ([(0, .ref 251), (1, .int a1), (2, .ref 267), (3, .int a3), (4, .int a4)], [], rf_MM w m) := by
  induction n with
  | zero => intro a1 a3 a4 m hg; cases hg
  | succ n ih => intro a1 a3 a4 m hg; exact s_X14_copies__251_267_3_b C hE ih a1 a3 a4 m hg
theorem c_X14_copies__251_267 {w : rf_w} {m : rf_m} {a1 : Int32} {a3 : Int32} {r : rf_m} (hg : g_X14_copies__251_267 w m a1 a3 = some r) : rf_Con j_X14_copies__251_267 1 (rf_sh w) [.ref 251, .int a1, .ref 267, .int a3] (rf_MM w m) none (rf_MM w r) := by
  refine rf_con j_X14_copies__251_267 1 ⟨by decide +kernel, rfl, Nat.le_of_ble_eq_true rfl⟩ (fun K C hE => ?_)
  unfold g_X14_copies__251_267 at hg
  show rf_V 5 (rf_sh w) K 0 0 0 ([(0, .ref 251), (1, .int a1), (2, .ref 267), (3, .int a3)], [], rf_MM w m)
  refine rf_seg C [(.iconst 0, 1), (.istore 4, 2)] (pc' := 3) (S' := ([(4, .int 0), (0, .ref 251), (1, .int a1), (2, .ref 267), (3, .int a3)], [], rf_MM w m)) (by decide +kernel) rfl trivial ?_
  refine rf_few [1, 2, 3, 4, 0] rfl ?_
  exact s_X14_copies__251_267_3 C hE rf_fuel a1 a3 0 m hg
-- X14_divides__259_267
abbrev j_X14_divides__259_267 : rf_J := (14, yX14_divides, cX14_divides, 6, none)
theorem mw_X14_divides__259_267 : rf_mv j_X14_divides__259_267 (rf_R 14) 4 := ⟨⟨rf_mem 72 (by decide +kernel), rf_mem 72 (by decide +kernel), rf_mem 0 (by decide +kernel), rf_mem 72 (by decide +kernel)⟩, by decide +kernel, by decide⟩
def g_X14_divides__259_267_139 (w : rf_w) (rec42 : Int32 → Int32 → Int32 → rf_m → Option (rf_m)) (a2 : Int32) (a4 : Int32) (a5 : Int32) (m : rf_m) : Option (rf_m) := rec42 a2 a4 (a5 + (-1)) m
def g_X14_divides__259_267_42_b (w : rf_w) (rec42 : Int32 → Int32 → Int32 → rf_m → Option (rf_m)) (a2 : Int32) (a4 : Int32) (a5 : Int32) (m : rf_m) : Option (rf_m) := (if a5 < 0 then some m else rf_bv (g_X14_adds__250_250 w m 0 0) fun m0 => rf_g (rf_in (a2 + (a5 / 32)) 6) (rf_bv (g_X14_adds__249_249 w (rf_i m0 250 (Int32.toNatClampNeg 0) ((m0.1 250 (Int32.toNatClampNeg 0)) ||| (((Int32.toUInt32 (m0.1 259 (Int32.toNatClampNeg (a2 + (a5 / 32)))) >>> (Int32.toUInt32 (a5 - a5 / 32 * 32) &&& Int32.toUInt32 31)).toInt32) &&& 1))) 0 0) fun m2 => rf_b (g_X14_isNoLess__250_267 w m2 0 a4) fun y3 m3 => (if y3 = 0 then g_X14_divides__259_267_139 w rec42 a2 a4 a5 m3 else rf_bv (g_X14_adds__250_251 w m3 0 0) fun m4 => g_X14_divides__259_267_139 w rec42 a2 a4 a5 (rf_i m4 249 (Int32.toNatClampNeg 0) ((m4.1 249 (Int32.toNatClampNeg 0)) ||| 1)))))
def g_X14_divides__259_267_42 (w : rf_w) : Nat → Int32 → Int32 → Int32 → rf_m → Option (rf_m)
  | 0, _, _, _, _ => none
  | n + 1, a2, a4, a5, m => g_X14_divides__259_267_42_b w (g_X14_divides__259_267_42 w n) a2 a4 a5 m
def g_X14_divides__259_267 (w : rf_w) (m : rf_m) (a2 : Int32) (a4 : Int32) : Option (rf_m) := rf_bv (g_X14_set__249 w m 0 0) fun m0 => rf_bv (g_X14_set__250 w m0 0 0) fun m1 => rf_bv (g_X14_copies__251_267 w m1 0 a4) fun m2 => rf_bv (g_X14_turns__251 w m2 0) fun m3 => g_X14_divides__259_267_42 w rf_fuel a2 a4 191 m3
theorem s_X14_divides__259_267_139 {w : rf_w} {K : rf_K} {r : rf_m} (C : rf_Ctx 14 cX14_divides 6 2 (rf_sh w) K) (hE : rf_End none K (rf_sh w) 0 0 none (rf_MM w r)) {rec42 : Int32 → Int32 → Int32 → rf_m → Option (rf_m)} (hr42 : ∀ (a2 : Int32) (a4 : Int32) (a5 : Int32) (m : rf_m), rec42 a2 a4 a5 m = some r → rf_V 6 (rf_sh w) K 0 0 42 ([(0, .ref 206), (1, .ref 259), (2, .int a2), (3, .ref 267), (4, .int a4), (5, .int a5)], [], rf_MM w m)) (a2 : Int32) (a4 : Int32) (a5 : Int32) (m : rf_m) (hg : g_X14_divides__259_267_139 w rec42 a2 a4 a5 m = some r) : rf_V 6 (rf_sh w) K 0 0 139 ([(0, .ref 206), (1, .ref 259), (2, .int a2), (3, .ref 267), (4, .int a4), (5, .int a5)], [], rf_MM w m) := by
  unfold g_X14_divides__259_267_139 at hg
  refine rf_seg C [(.iinc 5 (-1), 3)] (pc' := 142) (S' := ([(5, .int (a5 + (-1))), (0, .ref 206), (1, .ref 259), (2, .int a2), (3, .ref 267), (4, .int a4)], [], rf_MM w m)) (by decide +kernel) rfl trivial ?_
  refine rf_goto C (-100) 42 (by decide +kernel) ?_
  refine rf_few [1, 2, 3, 4, 5, 0] rfl ?_
  exact hr42 a2 a4 (a5 + (-1)) m hg
theorem s_X14_divides__259_267_42_b {w : rf_w} {K : rf_K} {r : rf_m} (C : rf_Ctx 14 cX14_divides 6 2 (rf_sh w) K) (hE : rf_End none K (rf_sh w) 0 0 none (rf_MM w r)) {rec42 : Int32 → Int32 → Int32 → rf_m → Option (rf_m)} (hr42 : ∀ (a2 : Int32) (a4 : Int32) (a5 : Int32) (m : rf_m), rec42 a2 a4 a5 m = some r → rf_V 6 (rf_sh w) K 0 0 42 ([(0, .ref 206), (1, .ref 259), (2, .int a2), (3, .ref 267), (4, .int a4), (5, .int a5)], [], rf_MM w m)) (a2 : Int32) (a4 : Int32) (a5 : Int32) (m : rf_m) (hg : g_X14_divides__259_267_42_b w rec42 a2 a4 a5 m = some r) : rf_V 6 (rf_sh w) K 0 0 42 ([(0, .ref 206), (1, .ref 259), (2, .int a2), (3, .ref 267), (4, .int a4), (5, .int a5)], [], rf_MM w m) := by
  unfold g_X14_divides__259_267_42_b at hg
  refine rf_seg C [(.iload 5, 2)] (pc' := 44) (S' := ([(0, .ref 206), (1, .ref 259), (2, .int a2), (3, .ref 267), (4, .int a4), (5, .int a5)], [.int a5], rf_MM w m)) (by decide +kernel) rfl trivial ?_
  refine rf_if_lt C 101 145 (by decide +kernel) (fun hc => ?_) (fun hc => ?_)
  · replace hg := (if_pos hc).symm.trans hg
    obtain rfl := Option.some.inj hg
    exact rf_vret C hE (by decide +kernel)
  · replace hg := (if_neg hc).symm.trans hg
    refine rf_seg C [(.aload 0, 1), (.invokeinterface 14 73, 3), (.iconst 0, 1), (.aload 0, 1), (.invokeinterface 14 73, 3), (.iconst 0, 1)] (pc' := 57) (S' := ([(0, .ref 206), (1, .ref 259), (2, .int a2), (3, .ref 267), (4, .int a4), (5, .int a5)], [.int 0, .ref 250, .int 0, .ref 250], rf_MM w m)) (by decide +kernel) rfl trivial ?_
    obtain ⟨m0, hc0, hg⟩ := rf_bv_some hg
    refine rf_calls C rf_fit0 j_X14_adds__250_250 (As := [.ref 250, .int 0, .ref 250, .int 0]) (rest := []) mw_X14_adds__250_250 (c_X14_adds__250_250 hc0) (by decide) lk_14_748 rfl rfl (Nat.le_of_ble_eq_true rfl) (by decide +kernel) ?_
    show rf_V 6 (rf_sh w) K 0 0 60 ([(0, .ref 206), (1, .ref 259), (2, .int a2), (3, .ref 267), (4, .int a4), (5, .int a5)], [], rf_MM w m0)
    obtain ⟨q1, hg⟩ := rf_g_some hg
    refine rf_seg C [(.aload 0, 1), (.invokeinterface 14 73, 3), (.iconst 0, 1), (.dup2, 1), (.iaload, 1), (.aload 1, 1), (.iload 2, 1), (.iload 5, 2), (.iconst 32, 2), (.idiv, 1), (.iadd, 1), (.iaload, 1), (.iload 5, 2), (.iconst 32, 2), (.irem, 1), (.iushr, 1), (.iconst 1, 1), (.iand, 1), (.ior, 1), (.iastore, 1), (.aload 0, 1), (.invokeinterface 14 72, 3), (.iconst 0, 1), (.aload 0, 1), (.invokeinterface 14 72, 3), (.iconst 0, 1)] (pc' := 96) (S' := ([(0, .ref 206), (1, .ref 259), (2, .int a2), (3, .ref 267), (4, .int a4), (5, .int a5)], [.int 0, .ref 249, .int 0, .ref 249], rf_MM w (rf_i m0 250 (Int32.toNatClampNeg 0) ((m0.1 250 (Int32.toNatClampNeg 0)) ||| (((Int32.toUInt32 (m0.1 259 (Int32.toNatClampNeg (a2 + (a5 / 32)))) >>> (Int32.toUInt32 (a5 - a5 / 32 * 32) &&& Int32.toUInt32 31)).toInt32) &&& 1))))) (by decide +kernel) rfl (by exact ⟨(rf_in_of (by decide)), (rf_nz_of (by decide)), (rf_in_of q1), (rf_nz_of (by decide)), (rf_in_of (by decide))⟩) ?_
    obtain ⟨m2, hc2, hg⟩ := rf_bv_some hg
    refine rf_calls C rf_fit0 j_X14_adds__249_249 (As := [.ref 249, .int 0, .ref 249, .int 0]) (rest := []) mw_X14_adds__249_249 (c_X14_adds__249_249 hc2) (by decide) lk_14_748 rfl rfl (Nat.le_of_ble_eq_true rfl) (by decide +kernel) ?_
    show rf_V 6 (rf_sh w) K 0 0 99 ([(0, .ref 206), (1, .ref 259), (2, .int a2), (3, .ref 267), (4, .int a4), (5, .int a5)], [], rf_MM w m2)
    refine rf_seg C [(.aload 0, 1), (.invokeinterface 14 73, 3), (.iconst 0, 1), (.aload 3, 1), (.iload 4, 2)] (pc' := 107) (S' := ([(0, .ref 206), (1, .ref 259), (2, .int a2), (3, .ref 267), (4, .int a4), (5, .int a5)], [.int a4, .ref 267, .int 0, .ref 250], rf_MM w m2)) (by decide +kernel) rfl trivial ?_
    obtain ⟨y3, m3, hc3, hg⟩ := rf_b_some hg
    refine rf_calls C rf_fit0 j_X14_isNoLess__250_267 (As := [.ref 250, .int 0, .ref 267, .int a4]) (rest := []) mw_X14_isNoLess__250_267 (c_X14_isNoLess__250_267 hc3) (by decide) lk_14_751 rfl rfl (Nat.le_of_ble_eq_true rfl) (by decide +kernel) ?_
    show rf_V 6 (rf_sh w) K 0 0 110 ([(0, .ref 206), (1, .ref 259), (2, .int a2), (3, .ref 267), (4, .int a4), (5, .int a5)], [.int y3], rf_MM w m3)
    refine rf_if_ne C 6 116 (by decide +kernel) (fun hc => ?_) (fun hc => ?_)
    · replace hg := (if_neg hc).symm.trans hg
      refine rf_seg C [(.aload 0, 1), (.invokeinterface 14 73, 3), (.iconst 0, 1), (.aload 0, 1), (.invokeinterface 14 74, 3), (.iconst 0, 1)] (pc' := 126) (S' := ([(0, .ref 206), (1, .ref 259), (2, .int a2), (3, .ref 267), (4, .int a4), (5, .int a5)], [.int 0, .ref 251, .int 0, .ref 250], rf_MM w m3)) (by decide +kernel) rfl trivial ?_
      obtain ⟨m4, hc4, hg⟩ := rf_bv_some hg
      refine rf_calls C rf_fit0 j_X14_adds__250_251 (As := [.ref 250, .int 0, .ref 251, .int 0]) (rest := []) mw_X14_adds__250_251 (c_X14_adds__250_251 hc4) (by decide) lk_14_748 rfl rfl (Nat.le_of_ble_eq_true rfl) (by decide +kernel) ?_
      show rf_V 6 (rf_sh w) K 0 0 129 ([(0, .ref 206), (1, .ref 259), (2, .int a2), (3, .ref 267), (4, .int a4), (5, .int a5)], [], rf_MM w m4)
      refine rf_seg C [(.aload 0, 1), (.invokeinterface 14 72, 3), (.iconst 0, 1), (.dup2, 1), (.iaload, 1), (.iconst 1, 1), (.ior, 1), (.iastore, 1)] (pc' := 139) (S' := ([(0, .ref 206), (1, .ref 259), (2, .int a2), (3, .ref 267), (4, .int a4), (5, .int a5)], [], rf_MM w (rf_i m4 249 (Int32.toNatClampNeg 0) ((m4.1 249 (Int32.toNatClampNeg 0)) ||| 1)))) (by decide +kernel) rfl (by exact ⟨(rf_in_of (by decide)), (rf_in_of (by decide))⟩) ?_
      refine rf_few [0, 1, 2, 3, 4, 5] rfl ?_
      exact s_X14_divides__259_267_139 C hE hr42 a2 a4 a5 (rf_i m4 249 (Int32.toNatClampNeg 0) ((m4.1 249 (Int32.toNatClampNeg 0)) ||| 1)) hg
    · replace hg := (if_pos hc).symm.trans hg
      refine rf_goto C 26 139 (by decide +kernel) ?_
      refine rf_few [0, 1, 2, 3, 4, 5] rfl ?_
      exact s_X14_divides__259_267_139 C hE hr42 a2 a4 a5 m3 hg
theorem s_X14_divides__259_267_42 {w : rf_w} {K : rf_K} {r : rf_m} (C : rf_Ctx 14 cX14_divides 6 2 (rf_sh w) K) (hE : rf_End none K (rf_sh w) 0 0 none (rf_MM w r)) (n : Nat) : ∀ (a2 : Int32) (a4 : Int32) (a5 : Int32) (m : rf_m), g_X14_divides__259_267_42 w n a2 a4 a5 m = some r → rf_V 6 (rf_sh w) K 0 0 42 ([(0, .ref 206), (1, .ref 259), (2, .int a2), (3, .ref 267), (4, .int a4), (5, .int a5)], [], rf_MM w m) := by
  induction n with
  | zero => intro a2 a4 a5 m hg; cases hg
  | succ n ih => intro a2 a4 a5 m hg; exact s_X14_divides__259_267_42_b C hE ih a2 a4 a5 m hg
theorem c_X14_divides__259_267 {w : rf_w} {m : rf_m} {a2 : Int32} {a4 : Int32} {r : rf_m} (hg : g_X14_divides__259_267 w m a2 a4 = some r) : rf_Con j_X14_divides__259_267 2 (rf_sh w) [.ref 206, .ref 259, .int a2, .ref 267, .int a4] (rf_MM w m) none (rf_MM w r) := by
  refine rf_con j_X14_divides__259_267 2 ⟨by decide +kernel, rfl, Nat.le_of_ble_eq_true rfl⟩ (fun K C hE => ?_)
  unfold g_X14_divides__259_267 at hg
  show rf_V 6 (rf_sh w) K 0 0 0 ([(0, .ref 206), (1, .ref 259), (2, .int a2), (3, .ref 267), (4, .int a4)], [], rf_MM w m)
  refine rf_seg C [(.aload 0, 1), (.invokeinterface 14 72, 3), (.iconst 0, 1), (.goto_w 0, 1)] (pc' := 6) (S' := ([(0, .ref 206), (1, .ref 259), (2, .int a2), (3, .ref 267), (4, .int a4)], [.long 0, .int 0, .ref 249], rf_MM w m)) (by decide +kernel) rfl trivial ?_
  obtain ⟨m0, hc0, hg⟩ := rf_bv_some hg
  refine rf_calls C rf_fit0 j_X14_set__249 (As := [.ref 249, .int 0, .long 0]) (rest := []) mw_X14_set__249 (c_X14_set__249 hc0) (by decide) lk_14_740 rfl rfl (Nat.le_of_ble_eq_true rfl) (by decide +kernel) ?_
  show rf_V 6 (rf_sh w) K 0 0 9 ([(0, .ref 206), (1, .ref 259), (2, .int a2), (3, .ref 267), (4, .int a4)], [], rf_MM w m0)
  refine rf_seg C [(.aload 0, 1), (.invokeinterface 14 73, 3), (.iconst 0, 1), (.goto_w 0, 1)] (pc' := 15) (S' := ([(0, .ref 206), (1, .ref 259), (2, .int a2), (3, .ref 267), (4, .int a4)], [.long 0, .int 0, .ref 250], rf_MM w m0)) (by decide +kernel) rfl trivial ?_
  obtain ⟨m1, hc1, hg⟩ := rf_bv_some hg
  refine rf_calls C rf_fit0 j_X14_set__250 (As := [.ref 250, .int 0, .long 0]) (rest := []) mw_X14_set__250 (c_X14_set__250 hc1) (by decide) lk_14_740 rfl rfl (Nat.le_of_ble_eq_true rfl) (by decide +kernel) ?_
  show rf_V 6 (rf_sh w) K 0 0 18 ([(0, .ref 206), (1, .ref 259), (2, .int a2), (3, .ref 267), (4, .int a4)], [], rf_MM w m1)
  refine rf_seg C [(.aload 0, 1), (.invokeinterface 14 74, 3), (.iconst 0, 1), (.aload 3, 1), (.iload 4, 2)] (pc' := 26) (S' := ([(0, .ref 206), (1, .ref 259), (2, .int a2), (3, .ref 267), (4, .int a4)], [.int a4, .ref 267, .int 0, .ref 251], rf_MM w m1)) (by decide +kernel) rfl trivial ?_
  obtain ⟨m2, hc2, hg⟩ := rf_bv_some hg
  refine rf_calls C rf_fit0 j_X14_copies__251_267 (As := [.ref 251, .int 0, .ref 267, .int a4]) (rest := []) mw_X14_copies__251_267 (c_X14_copies__251_267 hc2) (by decide) lk_14_744 rfl rfl (Nat.le_of_ble_eq_true rfl) (by decide +kernel) ?_
  show rf_V 6 (rf_sh w) K 0 0 29 ([(0, .ref 206), (1, .ref 259), (2, .int a2), (3, .ref 267), (4, .int a4)], [], rf_MM w m2)
  refine rf_seg C [(.aload 0, 1), (.invokeinterface 14 74, 3), (.iconst 0, 1)] (pc' := 34) (S' := ([(0, .ref 206), (1, .ref 259), (2, .int a2), (3, .ref 267), (4, .int a4)], [.int 0, .ref 251], rf_MM w m2)) (by decide +kernel) rfl trivial ?_
  obtain ⟨m3, hc3, hg⟩ := rf_bv_some hg
  refine rf_calls C rf_fit0 j_X14_turns__251 (As := [.ref 251, .int 0]) (rest := []) mw_X14_turns__251 (c_X14_turns__251 hc3) (by decide) lk_14_736 rfl rfl (Nat.le_of_ble_eq_true rfl) (by decide +kernel) ?_
  show rf_V 6 (rf_sh w) K 0 0 37 ([(0, .ref 206), (1, .ref 259), (2, .int a2), (3, .ref 267), (4, .int a4)], [], rf_MM w m3)
  refine rf_seg C [(.iconst 191, 3), (.istore 5, 2)] (pc' := 42) (S' := ([(5, .int 191), (0, .ref 206), (1, .ref 259), (2, .int a2), (3, .ref 267), (4, .int a4)], [], rf_MM w m3)) (by decide +kernel) rfl trivial ?_
  refine rf_few [1, 2, 3, 4, 5, 0] rfl ?_
  exact s_X14_divides__259_267_42 C hE rf_fuel a2 a4 191 m3 hg
-- X14_divides__266_267
abbrev j_X14_divides__266_267 : rf_J := (14, yX14_divides, cX14_divides, 6, none)
theorem mw_X14_divides__266_267 : rf_mv j_X14_divides__266_267 (rf_R 14) 4 := ⟨⟨rf_mem 72 (by decide +kernel), rf_mem 72 (by decide +kernel), rf_mem 0 (by decide +kernel), rf_mem 72 (by decide +kernel)⟩, by decide +kernel, by decide⟩
def g_X14_divides__266_267_139 (w : rf_w) (rec42 : Int32 → Int32 → Int32 → rf_m → Option (rf_m)) (a2 : Int32) (a4 : Int32) (a5 : Int32) (m : rf_m) : Option (rf_m) := rec42 a2 a4 (a5 + (-1)) m
def g_X14_divides__266_267_42_b (w : rf_w) (rec42 : Int32 → Int32 → Int32 → rf_m → Option (rf_m)) (a2 : Int32) (a4 : Int32) (a5 : Int32) (m : rf_m) : Option (rf_m) := (if a5 < 0 then some m else rf_bv (g_X14_adds__250_250 w m 0 0) fun m0 => rf_g (rf_in (a2 + (a5 / 32)) 6) (rf_bv (g_X14_adds__249_249 w (rf_i m0 250 (Int32.toNatClampNeg 0) ((m0.1 250 (Int32.toNatClampNeg 0)) ||| (((Int32.toUInt32 (m0.1 266 (Int32.toNatClampNeg (a2 + (a5 / 32)))) >>> (Int32.toUInt32 (a5 - a5 / 32 * 32) &&& Int32.toUInt32 31)).toInt32) &&& 1))) 0 0) fun m2 => rf_b (g_X14_isNoLess__250_267 w m2 0 a4) fun y3 m3 => (if y3 = 0 then g_X14_divides__266_267_139 w rec42 a2 a4 a5 m3 else rf_bv (g_X14_adds__250_251 w m3 0 0) fun m4 => g_X14_divides__266_267_139 w rec42 a2 a4 a5 (rf_i m4 249 (Int32.toNatClampNeg 0) ((m4.1 249 (Int32.toNatClampNeg 0)) ||| 1)))))
def g_X14_divides__266_267_42 (w : rf_w) : Nat → Int32 → Int32 → Int32 → rf_m → Option (rf_m)
  | 0, _, _, _, _ => none
  | n + 1, a2, a4, a5, m => g_X14_divides__266_267_42_b w (g_X14_divides__266_267_42 w n) a2 a4 a5 m
def g_X14_divides__266_267 (w : rf_w) (m : rf_m) (a2 : Int32) (a4 : Int32) : Option (rf_m) := rf_bv (g_X14_set__249 w m 0 0) fun m0 => rf_bv (g_X14_set__250 w m0 0 0) fun m1 => rf_bv (g_X14_copies__251_267 w m1 0 a4) fun m2 => rf_bv (g_X14_turns__251 w m2 0) fun m3 => g_X14_divides__266_267_42 w rf_fuel a2 a4 191 m3
theorem s_X14_divides__266_267_139 {w : rf_w} {K : rf_K} {r : rf_m} (C : rf_Ctx 14 cX14_divides 6 2 (rf_sh w) K) (hE : rf_End none K (rf_sh w) 0 0 none (rf_MM w r)) {rec42 : Int32 → Int32 → Int32 → rf_m → Option (rf_m)} (hr42 : ∀ (a2 : Int32) (a4 : Int32) (a5 : Int32) (m : rf_m), rec42 a2 a4 a5 m = some r → rf_V 6 (rf_sh w) K 0 0 42 ([(0, .ref 206), (1, .ref 266), (2, .int a2), (3, .ref 267), (4, .int a4), (5, .int a5)], [], rf_MM w m)) (a2 : Int32) (a4 : Int32) (a5 : Int32) (m : rf_m) (hg : g_X14_divides__266_267_139 w rec42 a2 a4 a5 m = some r) : rf_V 6 (rf_sh w) K 0 0 139 ([(0, .ref 206), (1, .ref 266), (2, .int a2), (3, .ref 267), (4, .int a4), (5, .int a5)], [], rf_MM w m) := by
  unfold g_X14_divides__266_267_139 at hg
  refine rf_seg C [(.iinc 5 (-1), 3)] (pc' := 142) (S' := ([(5, .int (a5 + (-1))), (0, .ref 206), (1, .ref 266), (2, .int a2), (3, .ref 267), (4, .int a4)], [], rf_MM w m)) (by decide +kernel) rfl trivial ?_
  refine rf_goto C (-100) 42 (by decide +kernel) ?_
  refine rf_few [1, 2, 3, 4, 5, 0] rfl ?_
  exact hr42 a2 a4 (a5 + (-1)) m hg
theorem s_X14_divides__266_267_42_b {w : rf_w} {K : rf_K} {r : rf_m} (C : rf_Ctx 14 cX14_divides 6 2 (rf_sh w) K) (hE : rf_End none K (rf_sh w) 0 0 none (rf_MM w r)) {rec42 : Int32 → Int32 → Int32 → rf_m → Option (rf_m)} (hr42 : ∀ (a2 : Int32) (a4 : Int32) (a5 : Int32) (m : rf_m), rec42 a2 a4 a5 m = some r → rf_V 6 (rf_sh w) K 0 0 42 ([(0, .ref 206), (1, .ref 266), (2, .int a2), (3, .ref 267), (4, .int a4), (5, .int a5)], [], rf_MM w m)) (a2 : Int32) (a4 : Int32) (a5 : Int32) (m : rf_m) (hg : g_X14_divides__266_267_42_b w rec42 a2 a4 a5 m = some r) : rf_V 6 (rf_sh w) K 0 0 42 ([(0, .ref 206), (1, .ref 266), (2, .int a2), (3, .ref 267), (4, .int a4), (5, .int a5)], [], rf_MM w m) := by
  unfold g_X14_divides__266_267_42_b at hg
  refine rf_seg C [(.iload 5, 2)] (pc' := 44) (S' := ([(0, .ref 206), (1, .ref 266), (2, .int a2), (3, .ref 267), (4, .int a4), (5, .int a5)], [.int a5], rf_MM w m)) (by decide +kernel) rfl trivial ?_
  refine rf_if_lt C 101 145 (by decide +kernel) (fun hc => ?_) (fun hc => ?_)
  · replace hg := (if_pos hc).symm.trans hg
    obtain rfl := Option.some.inj hg
    exact rf_vret C hE (by decide +kernel)
  · replace hg := (if_neg hc).symm.trans hg
    refine rf_seg C [(.aload 0, 1), (.invokeinterface 14 73, 3), (.iconst 0, 1), (.aload 0, 1), (.invokeinterface 14 73, 3), (.iconst 0, 1)] (pc' := 57) (S' := ([(0, .ref 206), (1, .ref 266), (2, .int a2), (3, .ref 267), (4, .int a4), (5, .int a5)], [.int 0, .ref 250, .int 0, .ref 250], rf_MM w m)) (by decide +kernel) rfl trivial ?_
    obtain ⟨m0, hc0, hg⟩ := rf_bv_some hg
    refine rf_calls C rf_fit0 j_X14_adds__250_250 (As := [.ref 250, .int 0, .ref 250, .int 0]) (rest := []) mw_X14_adds__250_250 (c_X14_adds__250_250 hc0) (by decide) lk_14_748 rfl rfl (Nat.le_of_ble_eq_true rfl) (by decide +kernel) ?_
    show rf_V 6 (rf_sh w) K 0 0 60 ([(0, .ref 206), (1, .ref 266), (2, .int a2), (3, .ref 267), (4, .int a4), (5, .int a5)], [], rf_MM w m0)
    obtain ⟨q1, hg⟩ := rf_g_some hg
    refine rf_seg C [(.aload 0, 1), (.invokeinterface 14 73, 3), (.iconst 0, 1), (.dup2, 1), (.iaload, 1), (.aload 1, 1), (.iload 2, 1), (.iload 5, 2), (.iconst 32, 2), (.idiv, 1), (.iadd, 1), (.iaload, 1), (.iload 5, 2), (.iconst 32, 2), (.irem, 1), (.iushr, 1), (.iconst 1, 1), (.iand, 1), (.ior, 1), (.iastore, 1), (.aload 0, 1), (.invokeinterface 14 72, 3), (.iconst 0, 1), (.aload 0, 1), (.invokeinterface 14 72, 3), (.iconst 0, 1)] (pc' := 96) (S' := ([(0, .ref 206), (1, .ref 266), (2, .int a2), (3, .ref 267), (4, .int a4), (5, .int a5)], [.int 0, .ref 249, .int 0, .ref 249], rf_MM w (rf_i m0 250 (Int32.toNatClampNeg 0) ((m0.1 250 (Int32.toNatClampNeg 0)) ||| (((Int32.toUInt32 (m0.1 266 (Int32.toNatClampNeg (a2 + (a5 / 32)))) >>> (Int32.toUInt32 (a5 - a5 / 32 * 32) &&& Int32.toUInt32 31)).toInt32) &&& 1))))) (by decide +kernel) rfl (by exact ⟨(rf_in_of (by decide)), (rf_nz_of (by decide)), (rf_in_of q1), (rf_nz_of (by decide)), (rf_in_of (by decide))⟩) ?_
    obtain ⟨m2, hc2, hg⟩ := rf_bv_some hg
    refine rf_calls C rf_fit0 j_X14_adds__249_249 (As := [.ref 249, .int 0, .ref 249, .int 0]) (rest := []) mw_X14_adds__249_249 (c_X14_adds__249_249 hc2) (by decide) lk_14_748 rfl rfl (Nat.le_of_ble_eq_true rfl) (by decide +kernel) ?_
    show rf_V 6 (rf_sh w) K 0 0 99 ([(0, .ref 206), (1, .ref 266), (2, .int a2), (3, .ref 267), (4, .int a4), (5, .int a5)], [], rf_MM w m2)
    refine rf_seg C [(.aload 0, 1), (.invokeinterface 14 73, 3), (.iconst 0, 1), (.aload 3, 1), (.iload 4, 2)] (pc' := 107) (S' := ([(0, .ref 206), (1, .ref 266), (2, .int a2), (3, .ref 267), (4, .int a4), (5, .int a5)], [.int a4, .ref 267, .int 0, .ref 250], rf_MM w m2)) (by decide +kernel) rfl trivial ?_
    obtain ⟨y3, m3, hc3, hg⟩ := rf_b_some hg
    refine rf_calls C rf_fit0 j_X14_isNoLess__250_267 (As := [.ref 250, .int 0, .ref 267, .int a4]) (rest := []) mw_X14_isNoLess__250_267 (c_X14_isNoLess__250_267 hc3) (by decide) lk_14_751 rfl rfl (Nat.le_of_ble_eq_true rfl) (by decide +kernel) ?_
    show rf_V 6 (rf_sh w) K 0 0 110 ([(0, .ref 206), (1, .ref 266), (2, .int a2), (3, .ref 267), (4, .int a4), (5, .int a5)], [.int y3], rf_MM w m3)
    refine rf_if_ne C 6 116 (by decide +kernel) (fun hc => ?_) (fun hc => ?_)
    · replace hg := (if_neg hc).symm.trans hg
      refine rf_seg C [(.aload 0, 1), (.invokeinterface 14 73, 3), (.iconst 0, 1), (.aload 0, 1), (.invokeinterface 14 74, 3), (.iconst 0, 1)] (pc' := 126) (S' := ([(0, .ref 206), (1, .ref 266), (2, .int a2), (3, .ref 267), (4, .int a4), (5, .int a5)], [.int 0, .ref 251, .int 0, .ref 250], rf_MM w m3)) (by decide +kernel) rfl trivial ?_
      obtain ⟨m4, hc4, hg⟩ := rf_bv_some hg
      refine rf_calls C rf_fit0 j_X14_adds__250_251 (As := [.ref 250, .int 0, .ref 251, .int 0]) (rest := []) mw_X14_adds__250_251 (c_X14_adds__250_251 hc4) (by decide) lk_14_748 rfl rfl (Nat.le_of_ble_eq_true rfl) (by decide +kernel) ?_
      show rf_V 6 (rf_sh w) K 0 0 129 ([(0, .ref 206), (1, .ref 266), (2, .int a2), (3, .ref 267), (4, .int a4), (5, .int a5)], [], rf_MM w m4)
      refine rf_seg C [(.aload 0, 1), (.invokeinterface 14 72, 3), (.iconst 0, 1), (.dup2, 1), (.iaload, 1), (.iconst 1, 1), (.ior, 1), (.iastore, 1)] (pc' := 139) (S' := ([(0, .ref 206), (1, .ref 266), (2, .int a2), (3, .ref 267), (4, .int a4), (5, .int a5)], [], rf_MM w (rf_i m4 249 (Int32.toNatClampNeg 0) ((m4.1 249 (Int32.toNatClampNeg 0)) ||| 1)))) (by decide +kernel) rfl (by exact ⟨(rf_in_of (by decide)), (rf_in_of (by decide))⟩) ?_
      refine rf_few [0, 1, 2, 3, 4, 5] rfl ?_
      exact s_X14_divides__266_267_139 C hE hr42 a2 a4 a5 (rf_i m4 249 (Int32.toNatClampNeg 0) ((m4.1 249 (Int32.toNatClampNeg 0)) ||| 1)) hg
    · replace hg := (if_pos hc).symm.trans hg
      refine rf_goto C 26 139 (by decide +kernel) ?_
      refine rf_few [0, 1, 2, 3, 4, 5] rfl ?_
      exact s_X14_divides__266_267_139 C hE hr42 a2 a4 a5 m3 hg
theorem s_X14_divides__266_267_42 {w : rf_w} {K : rf_K} {r : rf_m} (C : rf_Ctx 14 cX14_divides 6 2 (rf_sh w) K) (hE : rf_End none K (rf_sh w) 0 0 none (rf_MM w r)) (n : Nat) : ∀ (a2 : Int32) (a4 : Int32) (a5 : Int32) (m : rf_m), g_X14_divides__266_267_42 w n a2 a4 a5 m = some r → rf_V 6 (rf_sh w) K 0 0 42 ([(0, .ref 206), (1, .ref 266), (2, .int a2), (3, .ref 267), (4, .int a4), (5, .int a5)], [], rf_MM w m) := by
  induction n with
  | zero => intro a2 a4 a5 m hg; cases hg
  | succ n ih => intro a2 a4 a5 m hg; exact s_X14_divides__266_267_42_b C hE ih a2 a4 a5 m hg
theorem c_X14_divides__266_267 {w : rf_w} {m : rf_m} {a2 : Int32} {a4 : Int32} {r : rf_m} (hg : g_X14_divides__266_267 w m a2 a4 = some r) : rf_Con j_X14_divides__266_267 2 (rf_sh w) [.ref 206, .ref 266, .int a2, .ref 267, .int a4] (rf_MM w m) none (rf_MM w r) := by
  refine rf_con j_X14_divides__266_267 2 ⟨by decide +kernel, rfl, Nat.le_of_ble_eq_true rfl⟩ (fun K C hE => ?_)
  unfold g_X14_divides__266_267 at hg
  show rf_V 6 (rf_sh w) K 0 0 0 ([(0, .ref 206), (1, .ref 266), (2, .int a2), (3, .ref 267), (4, .int a4)], [], rf_MM w m)
  refine rf_seg C [(.aload 0, 1), (.invokeinterface 14 72, 3), (.iconst 0, 1), (.goto_w 0, 1)] (pc' := 6) (S' := ([(0, .ref 206), (1, .ref 266), (2, .int a2), (3, .ref 267), (4, .int a4)], [.long 0, .int 0, .ref 249], rf_MM w m)) (by decide +kernel) rfl trivial ?_
  obtain ⟨m0, hc0, hg⟩ := rf_bv_some hg
  refine rf_calls C rf_fit0 j_X14_set__249 (As := [.ref 249, .int 0, .long 0]) (rest := []) mw_X14_set__249 (c_X14_set__249 hc0) (by decide) lk_14_740 rfl rfl (Nat.le_of_ble_eq_true rfl) (by decide +kernel) ?_
  show rf_V 6 (rf_sh w) K 0 0 9 ([(0, .ref 206), (1, .ref 266), (2, .int a2), (3, .ref 267), (4, .int a4)], [], rf_MM w m0)
  refine rf_seg C [(.aload 0, 1), (.invokeinterface 14 73, 3), (.iconst 0, 1), (.goto_w 0, 1)] (pc' := 15) (S' := ([(0, .ref 206), (1, .ref 266), (2, .int a2), (3, .ref 267), (4, .int a4)], [.long 0, .int 0, .ref 250], rf_MM w m0)) (by decide +kernel) rfl trivial ?_
  obtain ⟨m1, hc1, hg⟩ := rf_bv_some hg
  refine rf_calls C rf_fit0 j_X14_set__250 (As := [.ref 250, .int 0, .long 0]) (rest := []) mw_X14_set__250 (c_X14_set__250 hc1) (by decide) lk_14_740 rfl rfl (Nat.le_of_ble_eq_true rfl) (by decide +kernel) ?_
  show rf_V 6 (rf_sh w) K 0 0 18 ([(0, .ref 206), (1, .ref 266), (2, .int a2), (3, .ref 267), (4, .int a4)], [], rf_MM w m1)
  refine rf_seg C [(.aload 0, 1), (.invokeinterface 14 74, 3), (.iconst 0, 1), (.aload 3, 1), (.iload 4, 2)] (pc' := 26) (S' := ([(0, .ref 206), (1, .ref 266), (2, .int a2), (3, .ref 267), (4, .int a4)], [.int a4, .ref 267, .int 0, .ref 251], rf_MM w m1)) (by decide +kernel) rfl trivial ?_
  obtain ⟨m2, hc2, hg⟩ := rf_bv_some hg
  refine rf_calls C rf_fit0 j_X14_copies__251_267 (As := [.ref 251, .int 0, .ref 267, .int a4]) (rest := []) mw_X14_copies__251_267 (c_X14_copies__251_267 hc2) (by decide) lk_14_744 rfl rfl (Nat.le_of_ble_eq_true rfl) (by decide +kernel) ?_
  show rf_V 6 (rf_sh w) K 0 0 29 ([(0, .ref 206), (1, .ref 266), (2, .int a2), (3, .ref 267), (4, .int a4)], [], rf_MM w m2)
  refine rf_seg C [(.aload 0, 1), (.invokeinterface 14 74, 3), (.iconst 0, 1)] (pc' := 34) (S' := ([(0, .ref 206), (1, .ref 266), (2, .int a2), (3, .ref 267), (4, .int a4)], [.int 0, .ref 251], rf_MM w m2)) (by decide +kernel) rfl trivial ?_
  obtain ⟨m3, hc3, hg⟩ := rf_bv_some hg
  refine rf_calls C rf_fit0 j_X14_turns__251 (As := [.ref 251, .int 0]) (rest := []) mw_X14_turns__251 (c_X14_turns__251 hc3) (by decide) lk_14_736 rfl rfl (Nat.le_of_ble_eq_true rfl) (by decide +kernel) ?_
  show rf_V 6 (rf_sh w) K 0 0 37 ([(0, .ref 206), (1, .ref 266), (2, .int a2), (3, .ref 267), (4, .int a4)], [], rf_MM w m3)
  refine rf_seg C [(.iconst 191, 3), (.istore 5, 2)] (pc' := 42) (S' := ([(5, .int 191), (0, .ref 206), (1, .ref 266), (2, .int a2), (3, .ref 267), (4, .int a4)], [], rf_MM w m3)) (by decide +kernel) rfl trivial ?_
  refine rf_few [1, 2, 3, 4, 5, 0] rfl ?_
  exact s_X14_divides__266_267_42 C hE rf_fuel a2 a4 191 m3 hg
-- X14_isZero__266
abbrev j_X14_isZero__266 : rf_J := (14, yX14_isZero, cX14_isZero, 4, (some .boolean))
theorem mw_X14_isZero__266 : rf_ms j_X14_isZero__266 2 := ⟨⟨rf_mem 72 (by decide +kernel), rf_mem 0 (by decide +kernel), rf_mem 72 (by decide +kernel)⟩, by decide +kernel, by decide⟩
def g_X14_isZero__266_27 (w : rf_w) (rec4 : Int32 → Int32 → Int32 → rf_m → Option (Int32 × rf_m)) (a1 : Int32) (a3 : Int32) (s0 : Int32) (m : rf_m) : Option (Int32 × rf_m) := rec4 a1 s0 (a3 + 1) m
def g_X14_isZero__266_26 (w : rf_w) (rec4 : Int32 → Int32 → Int32 → rf_m → Option (Int32 × rf_m)) (a1 : Int32) (a3 : Int32) (m : rf_m) : Option (Int32 × rf_m) := g_X14_isZero__266_27 w rec4 a1 a3 0 m
def g_X14_isZero__266_4_b (w : rf_w) (rec4 : Int32 → Int32 → Int32 → rf_m → Option (Int32 × rf_m)) (a1 : Int32) (a2 : Int32) (a3 : Int32) (m : rf_m) : Option (Int32 × rf_m) := (if 6 ≤ a3 then rf_g (rf_01 a2) (some (a2, m)) else (if a2 = 0 then g_X14_isZero__266_26 w rec4 a1 a3 m else rf_g (rf_in (a1 + a3) 6) ((if (m.1 266 (Int32.toNatClampNeg (a1 + a3))) = 0 then g_X14_isZero__266_27 w rec4 a1 a3 1 m else g_X14_isZero__266_26 w rec4 a1 a3 m))))
def g_X14_isZero__266_4 (w : rf_w) : Nat → Int32 → Int32 → Int32 → rf_m → Option (Int32 × rf_m)
  | 0, _, _, _, _ => none
  | n + 1, a1, a2, a3, m => g_X14_isZero__266_4_b w (g_X14_isZero__266_4 w n) a1 a2 a3 m
def g_X14_isZero__266 (w : rf_w) (m : rf_m) (a1 : Int32) : Option (Int32 × rf_m) := g_X14_isZero__266_4 w rf_fuel a1 1 0 m
theorem s_X14_isZero__266_27 {w : rf_w} {K : rf_K} {r : Int32 × rf_m} (C : rf_Ctx 14 cX14_isZero 4 1 (rf_sh w) K) (hE : rf_End (some .boolean) K (rf_sh w) 0 0 (some (.int r.1)) (rf_MM w r.2)) {rec4 : Int32 → Int32 → Int32 → rf_m → Option (Int32 × rf_m)} (hr4 : ∀ (a1 : Int32) (a2 : Int32) (a3 : Int32) (m : rf_m), rec4 a1 a2 a3 m = some r → rf_V 4 (rf_sh w) K 0 0 4 ([(0, .ref 266), (1, .int a1), (2, .int a2), (3, .int a3)], [], rf_MM w m)) (a1 : Int32) (a3 : Int32) (s0 : Int32) (m : rf_m) (hg : g_X14_isZero__266_27 w rec4 a1 a3 s0 m = some r) : rf_V 4 (rf_sh w) K 0 0 27 ([(0, .ref 266), (1, .int a1), (3, .int a3)], [.int s0], rf_MM w m) := by
  unfold g_X14_isZero__266_27 at hg
  refine rf_seg C [(.istore 2, 1), (.iinc 3 1, 3)] (pc' := 31) (S' := ([(3, .int (a3 + 1)), (2, .int s0), (0, .ref 266), (1, .int a1)], [], rf_MM w m)) (by decide +kernel) rfl trivial ?_
  refine rf_goto C (-27) 4 (by decide +kernel) ?_
  refine rf_few [2, 3, 1, 0] rfl ?_
  exact hr4 a1 s0 (a3 + 1) m hg
theorem s_X14_isZero__266_26 {w : rf_w} {K : rf_K} {r : Int32 × rf_m} (C : rf_Ctx 14 cX14_isZero 4 1 (rf_sh w) K) (hE : rf_End (some .boolean) K (rf_sh w) 0 0 (some (.int r.1)) (rf_MM w r.2)) {rec4 : Int32 → Int32 → Int32 → rf_m → Option (Int32 × rf_m)} (hr4 : ∀ (a1 : Int32) (a2 : Int32) (a3 : Int32) (m : rf_m), rec4 a1 a2 a3 m = some r → rf_V 4 (rf_sh w) K 0 0 4 ([(0, .ref 266), (1, .int a1), (2, .int a2), (3, .int a3)], [], rf_MM w m)) (a1 : Int32) (a3 : Int32) (m : rf_m) (hg : g_X14_isZero__266_26 w rec4 a1 a3 m = some r) : rf_V 4 (rf_sh w) K 0 0 26 ([(0, .ref 266), (1, .int a1), (3, .int a3)], [], rf_MM w m) := by
  unfold g_X14_isZero__266_26 at hg
  refine rf_seg C [(.iconst 0, 1)] (pc' := 27) (S' := ([(0, .ref 266), (1, .int a1), (3, .int a3)], [.int 0], rf_MM w m)) (by decide +kernel) rfl trivial ?_
  refine rf_few [0, 1, 2] rfl ?_
  exact s_X14_isZero__266_27 C hE hr4 a1 a3 0 m hg
theorem s_X14_isZero__266_4_b {w : rf_w} {K : rf_K} {r : Int32 × rf_m} (C : rf_Ctx 14 cX14_isZero 4 1 (rf_sh w) K) (hE : rf_End (some .boolean) K (rf_sh w) 0 0 (some (.int r.1)) (rf_MM w r.2)) {rec4 : Int32 → Int32 → Int32 → rf_m → Option (Int32 × rf_m)} (hr4 : ∀ (a1 : Int32) (a2 : Int32) (a3 : Int32) (m : rf_m), rec4 a1 a2 a3 m = some r → rf_V 4 (rf_sh w) K 0 0 4 ([(0, .ref 266), (1, .int a1), (2, .int a2), (3, .int a3)], [], rf_MM w m)) (a1 : Int32) (a2 : Int32) (a3 : Int32) (m : rf_m) (hg : g_X14_isZero__266_4_b w rec4 a1 a2 a3 m = some r) : rf_V 4 (rf_sh w) K 0 0 4 ([(0, .ref 266), (1, .int a1), (2, .int a2), (3, .int a3)], [], rf_MM w m) := by
  unfold g_X14_isZero__266_4_b at hg
  refine rf_seg C [(.iload 3, 1), (.iconst 6, 2)] (pc' := 7) (S' := ([(0, .ref 266), (1, .int a1), (2, .int a2), (3, .int a3)], [.int 6, .int a3], rf_MM w m)) (by decide +kernel) rfl trivial ?_
  refine rf_icmp_ge C 27 34 (by decide +kernel) (fun hc => ?_) (fun hc => ?_)
  · replace hg := (if_pos hc).symm.trans hg
    refine rf_seg C [(.iload 2, 1)] (pc' := 35) (S' := ([(0, .ref 266), (1, .int a1), (2, .int a2), (3, .int a3)], [.int a2], rf_MM w m)) (by decide +kernel) rfl trivial ?_
    obtain ⟨q01, hg⟩ := rf_g_some hg
    obtain rfl := Option.some.inj hg
    exact rf_zret C hE (rf_01_of q01) (by decide +kernel)
  · replace hg := (if_neg hc).symm.trans hg
    refine rf_seg C [(.iload 2, 1)] (pc' := 11) (S' := ([(0, .ref 266), (1, .int a1), (2, .int a2), (3, .int a3)], [.int a2], rf_MM w m)) (by decide +kernel) rfl trivial ?_
    refine rf_if_eq C 15 26 (by decide +kernel) (fun hc => ?_) (fun hc => ?_)
    · replace hg := (if_pos hc).symm.trans hg
      refine rf_few [0, 1, 3] rfl ?_
      exact s_X14_isZero__266_26 C hE hr4 a1 a3 m hg
    · replace hg := (if_neg hc).symm.trans hg
      obtain ⟨q0, hg⟩ := rf_g_some hg
      refine rf_seg C [(.aload 0, 1), (.iload 1, 1), (.iload 3, 1), (.iadd, 1), (.iaload, 1)] (pc' := 19) (S' := ([(0, .ref 266), (1, .int a1), (2, .int a2), (3, .int a3)], [.int (m.1 266 (Int32.toNatClampNeg (a1 + a3)))], rf_MM w m)) (by decide +kernel) rfl (rf_in_of q0) ?_
      refine rf_if_ne C 7 26 (by decide +kernel) (fun hc => ?_) (fun hc => ?_)
      · replace hg := (if_neg hc).symm.trans hg
        refine rf_few [0, 1, 3] rfl ?_
        exact s_X14_isZero__266_26 C hE hr4 a1 a3 m hg
      · replace hg := (if_pos hc).symm.trans hg
        refine rf_seg C [(.iconst 1, 1)] (pc' := 23) (S' := ([(0, .ref 266), (1, .int a1), (2, .int a2), (3, .int a3)], [.int 1], rf_MM w m)) (by decide +kernel) rfl trivial ?_
        refine rf_goto C 4 27 (by decide +kernel) ?_
        refine rf_few [0, 1, 3] rfl ?_
        exact s_X14_isZero__266_27 C hE hr4 a1 a3 1 m hg
theorem s_X14_isZero__266_4 {w : rf_w} {K : rf_K} {r : Int32 × rf_m} (C : rf_Ctx 14 cX14_isZero 4 1 (rf_sh w) K) (hE : rf_End (some .boolean) K (rf_sh w) 0 0 (some (.int r.1)) (rf_MM w r.2)) (n : Nat) : ∀ (a1 : Int32) (a2 : Int32) (a3 : Int32) (m : rf_m), g_X14_isZero__266_4 w n a1 a2 a3 m = some r → rf_V 4 (rf_sh w) K 0 0 4 ([(0, .ref 266), (1, .int a1), (2, .int a2), (3, .int a3)], [], rf_MM w m) := by
  induction n with
  | zero => intro a1 a2 a3 m hg; cases hg
  | succ n ih => intro a1 a2 a3 m hg; exact s_X14_isZero__266_4_b C hE ih a1 a2 a3 m hg
theorem c_X14_isZero__266 {w : rf_w} {m : rf_m} {a1 : Int32} {r : Int32 × rf_m} (hg : g_X14_isZero__266 w m a1 = some r) : rf_Con j_X14_isZero__266 1 (rf_sh w) [.ref 266, .int a1] (rf_MM w m) (some (.int r.1)) (rf_MM w r.2) := by
  refine rf_con j_X14_isZero__266 1 ⟨by decide +kernel, rfl, Nat.le_of_ble_eq_true rfl⟩ (fun K C hE => ?_)
  unfold g_X14_isZero__266 at hg
  show rf_V 4 (rf_sh w) K 0 0 0 ([(0, .ref 266), (1, .int a1)], [], rf_MM w m)
  refine rf_seg C [(.iconst 1, 1), (.istore 2, 1), (.iconst 0, 1), (.istore 3, 1)] (pc' := 4) (S' := ([(3, .int 0), (2, .int 1), (0, .ref 266), (1, .int a1)], [], rf_MM w m)) (by decide +kernel) rfl trivial ?_
  refine rf_few [2, 3, 1, 0] rfl ?_
  exact s_X14_isZero__266_4 C hE rf_fuel a1 1 0 m hg
-- X14_copies__266_264
abbrev j_X14_copies__266_264 : rf_J := (14, yX14_copies, cX14_copies, 5, none)
theorem mw_X14_copies__266_264 : rf_ms j_X14_copies__266_264 4 := ⟨⟨rf_mem 71 (by decide +kernel), rf_mem 0 (by decide +kernel), rf_mem 71 (by decide +kernel)⟩, by decide +kernel, by decide⟩
def g_X14_copies__266_264_3_b (w : rf_w) (rec3 : Int32 → Int32 → Int32 → rf_m → Option (rf_m)) (a1 : Int32) (a3 : Int32) (a4 : Int32) (m : rf_m) : Option (rf_m) := (if 6 ≤ a4 then some m else rf_g (rf_in (a3 + a4) 480) (rf_g (rf_in (a1 + a4) 6) (rec3 a1 a3 (a4 + 1) (rf_i m 266 (Int32.toNatClampNeg (a1 + a4)) (m.1 264 (Int32.toNatClampNeg (a3 + a4)))))))
def g_X14_copies__266_264_3 (w : rf_w) : Nat → Int32 → Int32 → Int32 → rf_m → Option (rf_m)
  | 0, _, _, _, _ => none
  | n + 1, a1, a3, a4, m => g_X14_copies__266_264_3_b w (g_X14_copies__266_264_3 w n) a1 a3 a4 m
def g_X14_copies__266_264 (w : rf_w) (m : rf_m) (a1 : Int32) (a3 : Int32) : Option (rf_m) := g_X14_copies__266_264_3 w rf_fuel a1 a3 0 m
theorem s_X14_copies__266_264_3_b {w : rf_w} {K : rf_K} {r : rf_m} (C : rf_Ctx 14 cX14_copies 5 1 (rf_sh w) K) (hE : rf_End none K (rf_sh w) 0 0 none (rf_MM w r)) {rec3 : Int32 → Int32 → Int32 → rf_m → Option (rf_m)} (hr3 : ∀ (a1 : Int32) (a3 : Int32) (a4 : Int32) (m : rf_m), rec3 a1 a3 a4 m = some r → rf_V 5 (rf_sh w) K 0 0 3 ([(0, .ref 266), (1, .int a1), (2, .ref 264), (3, .int a3), (4, .int a4)], [], rf_MM w m)) (a1 : Int32) (a3 : Int32) (a4 : Int32) (m : rf_m) (hg : g_X14_copies__266_264_3_b w rec3 a1 a3 a4 m = some r) : rf_V 5 (rf_sh w) K 0 0 3 ([(0, .ref 266), (1, .int a1), (2, .ref 264), (3, .int a3), (4, .int a4)], [], rf_MM w m) := by
  unfold g_X14_copies__266_264_3_b at hg
  refine rf_seg C [(.iload 4, 2), (.iconst 6, 2)] (pc' := 7) (S' := ([(0, .ref 266), (1, .int a1), (2, .ref 264), (3, .int a3), (4, .int a4)], [.int 6, .int a4], rf_MM w m)) (by decide +kernel) rfl trivial ?_
  refine rf_icmp_ge C 21 28 (by decide +kernel) (fun hc => ?_) (fun hc => ?_)
  · replace hg := (if_pos hc).symm.trans hg
    obtain rfl := Option.some.inj hg
    exact rf_vret C hE (by decide +kernel)
  · replace hg := (if_neg hc).symm.trans hg
    obtain ⟨q0, hg⟩ := rf_g_some hg
    obtain ⟨q1, hg⟩ := rf_g_some hg
    refine rf_seg C [(.aload 0, 1), (.iload 1, 1), (.iload 4, 2), (.iadd, 1), (.aload 2, 1), (.iload 3, 1), (.iload 4, 2), (.iadd, 1), (.iaload, 1), (.iastore, 1), (.iinc 4 1, 3)] (pc' := 25) (S' := ([(4, .int (a4 + 1)), (0, .ref 266), (1, .int a1), (2, .ref 264), (3, .int a3)], [], rf_MM w (rf_i m 266 (Int32.toNatClampNeg (a1 + a4)) (m.1 264 (Int32.toNatClampNeg (a3 + a4)))))) (by decide +kernel) rfl (by exact ⟨(rf_in_of q0), (rf_in_of q1)⟩) ?_
    refine rf_goto C (-22) 3 (by decide +kernel) ?_
    refine rf_few [1, 2, 3, 4, 0] rfl ?_
    exact hr3 a1 a3 (a4 + 1) (rf_i m 266 (Int32.toNatClampNeg (a1 + a4)) (m.1 264 (Int32.toNatClampNeg (a3 + a4)))) hg
theorem s_X14_copies__266_264_3 {w : rf_w} {K : rf_K} {r : rf_m} (C : rf_Ctx 14 cX14_copies 5 1 (rf_sh w) K) (hE : rf_End none K (rf_sh w) 0 0 none (rf_MM w r)) (n : Nat) : ∀ (a1 : Int32) (a3 : Int32) (a4 : Int32) (m : rf_m), g_X14_copies__266_264_3 w n a1 a3 a4 m = some r → rf_V 5 (rf_sh w) K 0 0 3 ([(0, .ref 266), (1, .int a1), (2, .ref 264), (3, .int a3), (4, .int a4)], [], rf_MM w m) := by
  induction n with
  | zero => intro a1 a3 a4 m hg; cases hg
  | succ n ih => intro a1 a3 a4 m hg; exact s_X14_copies__266_264_3_b C hE ih a1 a3 a4 m hg
theorem c_X14_copies__266_264 {w : rf_w} {m : rf_m} {a1 : Int32} {a3 : Int32} {r : rf_m} (hg : g_X14_copies__266_264 w m a1 a3 = some r) : rf_Con j_X14_copies__266_264 1 (rf_sh w) [.ref 266, .int a1, .ref 264, .int a3] (rf_MM w m) none (rf_MM w r) := by
  refine rf_con j_X14_copies__266_264 1 ⟨by decide +kernel, rfl, Nat.le_of_ble_eq_true rfl⟩ (fun K C hE => ?_)
  unfold g_X14_copies__266_264 at hg
  show rf_V 5 (rf_sh w) K 0 0 0 ([(0, .ref 266), (1, .int a1), (2, .ref 264), (3, .int a3)], [], rf_MM w m)
  refine rf_seg C [(.iconst 0, 1), (.istore 4, 2)] (pc' := 3) (S' := ([(4, .int 0), (0, .ref 266), (1, .int a1), (2, .ref 264), (3, .int a3)], [], rf_MM w m)) (by decide +kernel) rfl trivial ?_
  refine rf_few [1, 2, 3, 4, 0] rfl ?_
  exact s_X14_copies__266_264_3 C hE rf_fuel a1 a3 0 m hg
-- X14_turns__266
abbrev j_X14_turns__266 : rf_J := (14, yX14_turns, cX14_turns, 5, none)
theorem mw_X14_turns__266 : rf_ms j_X14_turns__266 2 := ⟨⟨rf_mem 71 (by decide +kernel), rf_mem 0 (by decide +kernel), rf_mem 71 (by decide +kernel)⟩, by decide +kernel, by decide⟩
def g_X14_turns__266_5_b (w : rf_w) (rec5 : Int32 → Int64 → Int32 → rf_m → Option (rf_m)) (a1 : Int32) (a2 : Int64) (a4 : Int32) (m : rf_m) : Option (rf_m) := (if 6 ≤ a4 then some m else rf_g (rf_in (a1 + a4) 6) (rf_vl (a2 + ((Int32.toInt64 ((m.1 266 (Int32.toNatClampNeg (a1 + a4))) ^^^ ((-1)))) &&& 4294967295)) fun x1 => rf_g (rf_in (a1 + a4) 6) (rf_vl ((Int64.toUInt64 x1 >>> ((Int32.toInt64 32).toUInt64 &&& Int64.toUInt64 63)).toInt64) fun x3 => rec5 a1 x3 (a4 + 1) (rf_i m 266 (Int32.toNatClampNeg (a1 + a4)) (Int64.toInt32 x1)))))
def g_X14_turns__266_5 (w : rf_w) : Nat → Int32 → Int64 → Int32 → rf_m → Option (rf_m)
  | 0, _, _, _, _ => none
  | n + 1, a1, a2, a4, m => g_X14_turns__266_5_b w (g_X14_turns__266_5 w n) a1 a2 a4 m
def g_X14_turns__266 (w : rf_w) (m : rf_m) (a1 : Int32) : Option (rf_m) := g_X14_turns__266_5 w rf_fuel a1 1 0 m
theorem s_X14_turns__266_5_b {w : rf_w} {K : rf_K} {r : rf_m} (C : rf_Ctx 14 cX14_turns 5 1 (rf_sh w) K) (hE : rf_End none K (rf_sh w) 0 0 none (rf_MM w r)) {rec5 : Int32 → Int64 → Int32 → rf_m → Option (rf_m)} (hr5 : ∀ (a1 : Int32) (a2 : Int64) (a4 : Int32) (m : rf_m), rec5 a1 a2 a4 m = some r → rf_V 5 (rf_sh w) K 0 0 5 ([(0, .ref 266), (1, .int a1), (2, .long a2), (4, .int a4)], [], rf_MM w m)) (a1 : Int32) (a2 : Int64) (a4 : Int32) (m : rf_m) (hg : g_X14_turns__266_5_b w rec5 a1 a2 a4 m = some r) : rf_V 5 (rf_sh w) K 0 0 5 ([(0, .ref 266), (1, .int a1), (2, .long a2), (4, .int a4)], [], rf_MM w m) := by
  unfold g_X14_turns__266_5_b at hg
  refine rf_seg C [(.iload 4, 2), (.iconst 6, 2)] (pc' := 9) (S' := ([(0, .ref 266), (1, .int a1), (2, .long a2), (4, .int a4)], [.int 6, .int a4], rf_MM w m)) (by decide +kernel) rfl trivial ?_
  refine rf_icmp_ge C 38 47 (by decide +kernel) (fun hc => ?_) (fun hc => ?_)
  · replace hg := (if_pos hc).symm.trans hg
    obtain rfl := Option.some.inj hg
    exact rf_vret C hE (by decide +kernel)
  · replace hg := (if_neg hc).symm.trans hg
    obtain ⟨q0, hg⟩ := rf_g_some hg
    refine rf_seg C [(.lload 2, 1), (.aload 0, 1), (.iload 1, 1), (.iload 4, 2), (.iadd, 1), (.iaload, 1), (.iconst (-1), 1), (.ixor, 1), (.i2l, 1), (.goto_w 4294967295, 3), (.land, 1), (.ladd, 1)] (pc' := 27) (S' := ([(0, .ref 266), (1, .int a1), (2, .long a2), (4, .int a4)], [.long (a2 + ((Int32.toInt64 ((m.1 266 (Int32.toNatClampNeg (a1 + a4))) ^^^ ((-1)))) &&& 4294967295))], rf_MM w m)) (by decide +kernel) rfl (rf_in_of q0) ?_
    obtain ⟨x1, hx1, hg⟩ := rf_vl_some hg
    refine rf_vl_top hx1 ?_
    obtain ⟨q2, hg⟩ := rf_g_some hg
    refine rf_seg C [(.lstore 2, 1), (.aload 0, 1), (.iload 1, 1), (.iload 4, 2), (.iadd, 1), (.lload 2, 1), (.l2i, 1), (.iastore, 1), (.lload 2, 1), (.iconst 32, 2), (.lushr, 1)] (pc' := 40) (S' := ([(2, .long x1), (0, .ref 266), (1, .int a1), (4, .int a4)], [.long ((Int64.toUInt64 x1 >>> ((Int32.toInt64 32).toUInt64 &&& Int64.toUInt64 63)).toInt64)], rf_MM w (rf_i m 266 (Int32.toNatClampNeg (a1 + a4)) (Int64.toInt32 x1)))) (by decide +kernel) rfl (rf_in_of q2) ?_
    obtain ⟨x3, hx3, hg⟩ := rf_vl_some hg
    refine rf_vl_top hx3 ?_
    refine rf_seg C [(.lstore 2, 1), (.iinc 4 1, 3)] (pc' := 44) (S' := ([(4, .int (a4 + 1)), (2, .long x3), (0, .ref 266), (1, .int a1)], [], rf_MM w (rf_i m 266 (Int32.toNatClampNeg (a1 + a4)) (Int64.toInt32 x1)))) (by decide +kernel) rfl trivial ?_
    refine rf_goto C (-39) 5 (by decide +kernel) ?_
    refine rf_few [2, 3, 1, 0] rfl ?_
    exact hr5 a1 x3 (a4 + 1) (rf_i m 266 (Int32.toNatClampNeg (a1 + a4)) (Int64.toInt32 x1)) hg
theorem s_X14_turns__266_5 {w : rf_w} {K : rf_K} {r : rf_m} (C : rf_Ctx 14 cX14_turns 5 1 (rf_sh w) K) (hE : rf_End none K (rf_sh w) 0 0 none (rf_MM w r)) (n : Nat) : ∀ (a1 : Int32) (a2 : Int64) (a4 : Int32) (m : rf_m), g_X14_turns__266_5 w n a1 a2 a4 m = some r → rf_V 5 (rf_sh w) K 0 0 5 ([(0, .ref 266), (1, .int a1), (2, .long a2), (4, .int a4)], [], rf_MM w m) := by
  induction n with
  | zero => intro a1 a2 a4 m hg; cases hg
  | succ n ih => intro a1 a2 a4 m hg; exact s_X14_turns__266_5_b C hE ih a1 a2 a4 m hg
theorem c_X14_turns__266 {w : rf_w} {m : rf_m} {a1 : Int32} {r : rf_m} (hg : g_X14_turns__266 w m a1 = some r) : rf_Con j_X14_turns__266 1 (rf_sh w) [.ref 266, .int a1] (rf_MM w m) none (rf_MM w r) := by
  refine rf_con j_X14_turns__266 1 ⟨by decide +kernel, rfl, Nat.le_of_ble_eq_true rfl⟩ (fun K C hE => ?_)
  unfold g_X14_turns__266 at hg
  show rf_V 5 (rf_sh w) K 0 0 0 ([(0, .ref 266), (1, .int a1)], [], rf_MM w m)
  refine rf_seg C [(.goto_w 1, 1), (.lstore 2, 1), (.iconst 0, 1), (.istore 4, 2)] (pc' := 5) (S' := ([(4, .int 0), (2, .long 1), (0, .ref 266), (1, .int a1)], [], rf_MM w m)) (by decide +kernel) rfl trivial ?_
  refine rf_few [2, 3, 1, 0] rfl ?_
  exact s_X14_turns__266_5 C hE rf_fuel a1 1 0 m hg
-- X14_isNoLess__250_266
abbrev j_X14_isNoLess__250_266 : rf_J := (14, yX14_isNoLess, cX14_isNoLess, 9, (some .boolean))
theorem mw_X14_isNoLess__250_266 : rf_ms j_X14_isNoLess__250_266 4 := ⟨⟨rf_mem 72 (by decide +kernel), rf_mem 0 (by decide +kernel), rf_mem 72 (by decide +kernel)⟩, by decide +kernel, by decide⟩
def g_X14_isNoLess__250_266_3_b (w : rf_w) (rec3 : Int32 → Int32 → Int32 → rf_m → Option (Int32 × rf_m)) (a1 : Int32) (a3 : Int32) (a4 : Int32) (m : rf_m) : Option (Int32 × rf_m) := (if a4 < 0 then some (1, m) else rf_g (rf_in (a1 + a4) 6) (rf_vl ((Int32.toInt64 (m.1 250 (Int32.toNatClampNeg (a1 + a4)))) &&& 4294967295) fun x1 => rf_g (rf_in (a3 + a4) 6) (rf_vl ((Int32.toInt64 (m.1 266 (Int32.toNatClampNeg (a3 + a4)))) &&& 4294967295) fun x3 => (if (lg_cmp x1 x3) = 0 then rec3 a1 a3 (a4 + (-1)) m else (if (lg_cmp x1 x3) ≤ 0 then some (0, m) else some (1, m))))))
def g_X14_isNoLess__250_266_3 (w : rf_w) : Nat → Int32 → Int32 → Int32 → rf_m → Option (Int32 × rf_m)
  | 0, _, _, _, _ => none
  | n + 1, a1, a3, a4, m => g_X14_isNoLess__250_266_3_b w (g_X14_isNoLess__250_266_3 w n) a1 a3 a4 m
def g_X14_isNoLess__250_266 (w : rf_w) (m : rf_m) (a1 : Int32) (a3 : Int32) : Option (Int32 × rf_m) := g_X14_isNoLess__250_266_3 w rf_fuel a1 a3 5 m
theorem s_X14_isNoLess__250_266_3_b {w : rf_w} {K : rf_K} {r : Int32 × rf_m} (C : rf_Ctx 14 cX14_isNoLess 9 1 (rf_sh w) K) (hE : rf_End (some .boolean) K (rf_sh w) 0 0 (some (.int r.1)) (rf_MM w r.2)) {rec3 : Int32 → Int32 → Int32 → rf_m → Option (Int32 × rf_m)} (hr3 : ∀ (a1 : Int32) (a3 : Int32) (a4 : Int32) (m : rf_m), rec3 a1 a3 a4 m = some r → rf_V 9 (rf_sh w) K 0 0 3 ([(0, .ref 250), (1, .int a1), (2, .ref 266), (3, .int a3), (4, .int a4)], [], rf_MM w m)) (a1 : Int32) (a3 : Int32) (a4 : Int32) (m : rf_m) (hg : g_X14_isNoLess__250_266_3_b w rec3 a1 a3 a4 m = some r) : rf_V 9 (rf_sh w) K 0 0 3 ([(0, .ref 250), (1, .int a1), (2, .ref 266), (3, .int a3), (4, .int a4)], [], rf_MM w m) := by
  unfold g_X14_isNoLess__250_266_3_b at hg
  refine rf_seg C [(.iload 4, 2)] (pc' := 5) (S' := ([(0, .ref 250), (1, .int a1), (2, .ref 266), (3, .int a3), (4, .int a4)], [.int a4], rf_MM w m)) (by decide +kernel) rfl trivial ?_
  refine rf_if_lt C 57 62 (by decide +kernel) (fun hc => ?_) (fun hc => ?_)
  · replace hg := (if_pos hc).symm.trans hg
    refine rf_seg C [(.iconst 1, 1)] (pc' := 63) (S' := ([(0, .ref 250), (1, .int a1), (2, .ref 266), (3, .int a3), (4, .int a4)], [.int 1], rf_MM w m)) (by decide +kernel) rfl trivial ?_
    obtain rfl := Option.some.inj hg
    exact rf_zret C hE (by decide) (by decide +kernel)
  · replace hg := (if_neg hc).symm.trans hg
    obtain ⟨q0, hg⟩ := rf_g_some hg
    refine rf_seg C [(.aload 0, 1), (.iload 1, 1), (.iload 4, 2), (.iadd, 1), (.iaload, 1), (.i2l, 1), (.goto_w 4294967295, 3), (.land, 1)] (pc' := 19) (S' := ([(0, .ref 250), (1, .int a1), (2, .ref 266), (3, .int a3), (4, .int a4)], [.long ((Int32.toInt64 (m.1 250 (Int32.toNatClampNeg (a1 + a4)))) &&& 4294967295)], rf_MM w m)) (by decide +kernel) rfl (rf_in_of q0) ?_
    obtain ⟨x1, hx1, hg⟩ := rf_vl_some hg
    refine rf_vl_top hx1 ?_
    obtain ⟨q2, hg⟩ := rf_g_some hg
    refine rf_seg C [(.lstore 5, 2), (.aload 2, 1), (.iload 3, 1), (.iload 4, 2), (.iadd, 1), (.iaload, 1), (.i2l, 1), (.goto_w 4294967295, 3), (.land, 1)] (pc' := 32) (S' := ([(5, .long x1), (0, .ref 250), (1, .int a1), (2, .ref 266), (3, .int a3), (4, .int a4)], [.long ((Int32.toInt64 (m.1 266 (Int32.toNatClampNeg (a3 + a4)))) &&& 4294967295)], rf_MM w m)) (by decide +kernel) rfl (rf_in_of q2) ?_
    obtain ⟨x3, hx3, hg⟩ := rf_vl_some hg
    refine rf_vl_top hx3 ?_
    refine rf_seg C [(.lstore 7, 2), (.lload 5, 2), (.lload 7, 2), (.lcmp, 1)] (pc' := 39) (S' := ([(7, .long x3), (5, .long x1), (0, .ref 250), (1, .int a1), (2, .ref 266), (3, .int a3), (4, .int a4)], [.int (lg_cmp x1 x3)], rf_MM w m)) (by decide +kernel) rfl trivial ?_
    refine rf_if_eq C 17 56 (by decide +kernel) (fun hc => ?_) (fun hc => ?_)
    · replace hg := (if_pos hc).symm.trans hg
      refine rf_seg C [(.iinc 4 (-1), 3)] (pc' := 59) (S' := ([(4, .int (a4 + (-1))), (7, .long x3), (5, .long x1), (0, .ref 250), (1, .int a1), (2, .ref 266), (3, .int a3)], [], rf_MM w m)) (by decide +kernel) rfl trivial ?_
      refine rf_goto C (-56) 3 (by decide +kernel) ?_
      refine rf_few [3, 4, 5, 6, 0] rfl ?_
      exact hr3 a1 a3 (a4 + (-1)) m hg
    · replace hg := (if_neg hc).symm.trans hg
      refine rf_seg C [(.lload 5, 2), (.lload 7, 2), (.lcmp, 1)] (pc' := 47) (S' := ([(7, .long x3), (5, .long x1), (0, .ref 250), (1, .int a1), (2, .ref 266), (3, .int a3), (4, .int a4)], [.int (lg_cmp x1 x3)], rf_MM w m)) (by decide +kernel) rfl trivial ?_
      refine rf_if_le C 7 54 (by decide +kernel) (fun hc => ?_) (fun hc => ?_)
      · replace hg := (if_pos hc).symm.trans hg
        refine rf_seg C [(.iconst 0, 1)] (pc' := 55) (S' := ([(7, .long x3), (5, .long x1), (0, .ref 250), (1, .int a1), (2, .ref 266), (3, .int a3), (4, .int a4)], [.int 0], rf_MM w m)) (by decide +kernel) rfl trivial ?_
        obtain rfl := Option.some.inj hg
        exact rf_zret C hE (by decide) (by decide +kernel)
      · replace hg := (if_neg hc).symm.trans hg
        refine rf_seg C [(.iconst 1, 1)] (pc' := 51) (S' := ([(7, .long x3), (5, .long x1), (0, .ref 250), (1, .int a1), (2, .ref 266), (3, .int a3), (4, .int a4)], [.int 1], rf_MM w m)) (by decide +kernel) rfl trivial ?_
        refine rf_goto C 4 55 (by decide +kernel) ?_
        obtain rfl := Option.some.inj hg
        exact rf_zret C hE (by decide) (by decide +kernel)
theorem s_X14_isNoLess__250_266_3 {w : rf_w} {K : rf_K} {r : Int32 × rf_m} (C : rf_Ctx 14 cX14_isNoLess 9 1 (rf_sh w) K) (hE : rf_End (some .boolean) K (rf_sh w) 0 0 (some (.int r.1)) (rf_MM w r.2)) (n : Nat) : ∀ (a1 : Int32) (a3 : Int32) (a4 : Int32) (m : rf_m), g_X14_isNoLess__250_266_3 w n a1 a3 a4 m = some r → rf_V 9 (rf_sh w) K 0 0 3 ([(0, .ref 250), (1, .int a1), (2, .ref 266), (3, .int a3), (4, .int a4)], [], rf_MM w m) := by
  induction n with
  | zero => intro a1 a3 a4 m hg; cases hg
  | succ n ih => intro a1 a3 a4 m hg; exact s_X14_isNoLess__250_266_3_b C hE ih a1 a3 a4 m hg
theorem c_X14_isNoLess__250_266 {w : rf_w} {m : rf_m} {a1 : Int32} {a3 : Int32} {r : Int32 × rf_m} (hg : g_X14_isNoLess__250_266 w m a1 a3 = some r) : rf_Con j_X14_isNoLess__250_266 1 (rf_sh w) [.ref 250, .int a1, .ref 266, .int a3] (rf_MM w m) (some (.int r.1)) (rf_MM w r.2) := by
  refine rf_con j_X14_isNoLess__250_266 1 ⟨by decide +kernel, rfl, Nat.le_of_ble_eq_true rfl⟩ (fun K C hE => ?_)
  unfold g_X14_isNoLess__250_266 at hg
  show rf_V 9 (rf_sh w) K 0 0 0 ([(0, .ref 250), (1, .int a1), (2, .ref 266), (3, .int a3)], [], rf_MM w m)
  refine rf_seg C [(.iconst 5, 1), (.istore 4, 2)] (pc' := 3) (S' := ([(4, .int 5), (0, .ref 250), (1, .int a1), (2, .ref 266), (3, .int a3)], [], rf_MM w m)) (by decide +kernel) rfl trivial ?_
  refine rf_few [1, 2, 3, 4, 0] rfl ?_
  exact s_X14_isNoLess__250_266_3 C hE rf_fuel a1 a3 5 m hg
