/-! methods as functions, and their contracts (written by wip/tool/gen.py) -/
-- absL
abbrev j_absL : rf_J := (22, Lib.MathLoose.abs_long.x, Lib.MathLoose.abs_long.code, 2, (some .long))
theorem mw_absL : rf_ms j_absL 1 := ⟨⟨rf_mem 66 (by decide +kernel), rf_mem 20 (by decide +kernel), rf_mem 66 (by decide +kernel)⟩, by decide +kernel, by decide⟩
def g_absL (w : rf_w) (m : rf_m) (a0 : Int64) : Option (Int64 × rf_m) := (if (0 : Int32) ≤ (lg_cmp a0 0) then some (a0, m) else some (-a0, m))
theorem c_absL {w : rf_w} {m : rf_m} {a0 : Int64} {r : Int64 × rf_m} (hg : g_absL w m a0 = some r) : rf_Con j_absL 1 (rf_sh w) [.long a0] (rf_MM w m) (some (.long r.1)) (rf_MM w r.2) := by
  refine rf_con j_absL 1 ⟨by decide +kernel, rfl, Nat.le_of_ble_eq_true rfl⟩ (fun K C hE => ?_)
  unfold g_absL at hg
  show rf_V 2 (rf_sh w) K 0 0 0 ([(0, .long a0)], [], rf_MM w m)
  refine rf_seg C [(.lload 0, 1), (.goto_w 0, 1), (.lcmp, 1)] (pc' := 3) (S' := ([(0, .long a0)], [.int (lg_cmp a0 0)], rf_MM w m)) (by decide +kernel) rfl trivial ?_
  refine rf_if_ge C 8 11 (by decide +kernel) (fun hc => ?_) (fun hc => ?_)
  · replace hg := (if_pos hc).symm.trans hg
    refine rf_seg C [(.lload 0, 1)] (pc' := 12) (S' := ([(0, .long a0)], [.long a0], rf_MM w m)) (by decide +kernel) rfl trivial ?_
    obtain rfl := Option.some.inj hg
    exact rf_lret C hE (by decide +kernel)
  · replace hg := (if_neg hc).symm.trans hg
    refine rf_seg C [(.lload 0, 1), (.lneg, 1)] (pc' := 8) (S' := ([(0, .long a0)], [.long (-a0)], rf_MM w m)) (by decide +kernel) rfl trivial ?_
    refine rf_goto C 4 12 (by decide +kernel) ?_
    obtain rfl := Option.some.inj hg
    exact rf_lret C hE (by decide +kernel)
-- X1_setLong
abbrev j_X1_setLong : rf_J := (1, yX1_setLong, cX1_setLong, 5, none)
theorem mw_X1_setLong : rf_mv j_X1_setLong (rf_R 1) 1 := ⟨⟨rf_mem 66 (by decide +kernel), rf_mem 66 (by decide +kernel), rf_mem 5 (by decide +kernel), rf_mem 66 (by decide +kernel)⟩, by decide +kernel, by decide⟩
def g_X1_setLong_25_b (w : rf_w) (rec25 : Nat → Int64 → rf_m → Option (rf_m)) (a0 : Nat) (a3 : Int64) (m : rf_m) : Option (rf_m) := rf_g (rf_isO w a0 1) (rf_g (rf_isR w a0 2 (a0 + 1)) (rf_g (rf_isA w (a0 + 1) .long 10) ((if (lg_cmp a3 0) ≤ 0 then some m else (if 10 ≤ (m.1 a0 0) then some m else rf_g (rf_in (m.1 a0 0) 10) (rf_vl ((Int64.toUInt64 a3 >>> ((Int32.toInt64 30).toUInt64 &&& Int64.toUInt64 63)).toInt64) fun x4 => rec25 a0 x4 (rf_i (rf_l m (a0 + 1) (Int32.toNatClampNeg (m.1 a0 0)) (a3 &&& 1073741823)) a0 0 (((rf_l m (a0 + 1) (Int32.toNatClampNeg (m.1 a0 0)) (a3 &&& 1073741823)).1 a0 0) + 1))))))))
def g_X1_setLong_25 (w : rf_w) : Nat → Nat → Int64 → rf_m → Option (rf_m)
  | 0, _, _, _ => none
  | n + 1, a0, a3, m => g_X1_setLong_25_b w (g_X1_setLong_25 w n) a0 a3 m
def g_X1_setLong_12 (w : rf_w) (a0 : Nat) (a1 : Int64) (s0 : Nat) (s1 : Int32) (m : rf_m) : Option (rf_m) := rf_g (rf_isO w a0 1) (rf_g (rf_isR w a0 2 (a0 + 1)) (rf_g (rf_isA w (a0 + 1) .long 10) (rf_g (rf_isO w s0 1) (rf_g (rf_isR w s0 2 (s0 + 1)) (rf_g (rf_isA w (s0 + 1) .long 10) (rf_g (rf_01 s1) (rf_b (g_absL w (rf_i m s0 1 s1) a1) fun y7 m7 => g_X1_setLong_25 w rf_fuel a0 y7 (rf_i m7 a0 0 0))))))))
def g_X1_setLong (w : rf_w) (m : rf_m) (a0 : Nat) (a1 : Int64) : Option (rf_m) := rf_g (rf_isO w a0 1) (rf_g (rf_isR w a0 2 (a0 + 1)) (rf_g (rf_isA w (a0 + 1) .long 10) ((if (0 : Int32) ≤ (lg_cmp a1 0) then g_X1_setLong_12 w a0 a1 a0 0 m else g_X1_setLong_12 w a0 a1 a0 1 m))))
theorem s_X1_setLong_25_b {w : rf_w} {K : rf_K} {r : rf_m} (C : rf_Ctx 1 cX1_setLong 5 2 (rf_sh w) K) (hE : rf_End none K (rf_sh w) 0 0 none (rf_MM w r)) {rec25 : Nat → Int64 → rf_m → Option (rf_m)} (hr25 : ∀ (a0 : Nat) (a3 : Int64) (m : rf_m), rec25 a0 a3 m = some r → rf_V 5 (rf_sh w) K 0 0 25 ([(0, .ref a0), (3, .long a3)], [], rf_MM w m)) (a0 : Nat) (a3 : Int64) (m : rf_m) (hg : g_X1_setLong_25_b w rec25 a0 a3 m = some r) : rf_V 5 (rf_sh w) K 0 0 25 ([(0, .ref a0), (3, .long a3)], [], rf_MM w m) := by
  unfold g_X1_setLong_25_b at hg
  obtain ⟨q0, hg⟩ := rf_g_some hg
  obtain ⟨q1, hg⟩ := rf_g_some hg
  obtain ⟨q2, hg⟩ := rf_g_some hg
  refine rf_seg C [(.lload 3, 1), (.goto_w 0, 1), (.lcmp, 1)] (pc' := 28) (S' := ([(0, .ref a0), (3, .long a3)], [.int (lg_cmp a3 0)], rf_MM w m)) (by decide +kernel) rfl trivial ?_
  refine rf_if_le C 44 72 (by decide +kernel) (fun hc => ?_) (fun hc => ?_)
  · replace hg := (if_pos hc).symm.trans hg
    obtain rfl := Option.some.inj hg
    exact rf_vret C hE (by decide +kernel)
  · replace hg := (if_neg hc).symm.trans hg
    refine rf_seg C [(.aload 0, 1)] (pc' := 32) (S' := ([(0, .ref a0), (3, .long a3)], [.ref a0], rf_MM w m)) (by decide +kernel) rfl trivial ?_
    refine rf_d_get C 1 0 (rf_isO_of q0) (by decide +kernel) ?_
    show rf_V 5 (rf_sh w) K 0 0 35 ([(0, .ref a0), (3, .long a3)], [.int (m.1 a0 0)], rf_MM w m)
    refine rf_seg C [(.iconst 10, 2)] (pc' := 37) (S' := ([(0, .ref a0), (3, .long a3)], [.int 10, .int (m.1 a0 0)], rf_MM w m)) (by decide +kernel) rfl trivial ?_
    refine rf_icmp_ge C 35 72 (by decide +kernel) (fun hc => ?_) (fun hc => ?_)
    · replace hg := (if_pos hc).symm.trans hg
      obtain rfl := Option.some.inj hg
      exact rf_vret C hE (by decide +kernel)
    · replace hg := (if_neg hc).symm.trans hg
      refine rf_seg C [(.aload 0, 1)] (pc' := 41) (S' := ([(0, .ref a0), (3, .long a3)], [.ref a0], rf_MM w m)) (by decide +kernel) rfl trivial ?_
      refine rf_d_getr C 1 2 (rf_isO_of q0) rfl (rf_isR_of q1) (by decide +kernel) ?_
      show rf_V 5 (rf_sh w) K 0 0 44 ([(0, .ref a0), (3, .long a3)], [.ref (a0 + 1)], rf_MM w m)
      refine rf_seg C [(.aload 0, 1)] (pc' := 45) (S' := ([(0, .ref a0), (3, .long a3)], [.ref a0, .ref (a0 + 1)], rf_MM w m)) (by decide +kernel) rfl trivial ?_
      refine rf_d_get C 1 0 (rf_isO_of q0) (by decide +kernel) ?_
      show rf_V 5 (rf_sh w) K 0 0 48 ([(0, .ref a0), (3, .long a3)], [.int (m.1 a0 0), .ref (a0 + 1)], rf_MM w m)
      refine rf_seg C [(.lload 3, 1), (.goto_w 1073741823, 3), (.land, 1)] (pc' := 53) (S' := ([(0, .ref a0), (3, .long a3)], [.long (a3 &&& 1073741823), .int (m.1 a0 0), .ref (a0 + 1)], rf_MM w m)) (by decide +kernel) rfl trivial ?_
      obtain ⟨q3, hg⟩ := rf_g_some hg
      refine rf_d_lastore C (rf_isA_of q2) (rf_in_of q3) (by decide +kernel) ?_
      show rf_V 5 (rf_sh w) K 0 0 54 ([(0, .ref a0), (3, .long a3)], [], rf_MM w (rf_l m (a0 + 1) (Int32.toNatClampNeg (m.1 a0 0)) (a3 &&& 1073741823)))
      refine rf_seg C [(.lload 3, 1), (.iconst 30, 2), (.lushr, 1)] (pc' := 58) (S' := ([(0, .ref a0), (3, .long a3)], [.long ((Int64.toUInt64 a3 >>> ((Int32.toInt64 30).toUInt64 &&& Int64.toUInt64 63)).toInt64)], rf_MM w (rf_l m (a0 + 1) (Int32.toNatClampNeg (m.1 a0 0)) (a3 &&& 1073741823)))) (by decide +kernel) rfl trivial ?_
      obtain ⟨x4, hx4, hg⟩ := rf_vl_some hg
      refine rf_vl_top hx4 ?_
      refine rf_seg C [(.lstore 3, 1), (.aload 0, 1), (.dup, 1)] (pc' := 61) (S' := ([(3, .long x4), (0, .ref a0)], [.ref a0, .ref a0], rf_MM w (rf_l m (a0 + 1) (Int32.toNatClampNeg (m.1 a0 0)) (a3 &&& 1073741823)))) (by decide +kernel) rfl trivial ?_
      refine rf_d_get C 1 0 (rf_isO_of q0) (by decide +kernel) ?_
      show rf_V 5 (rf_sh w) K 0 0 64 ([(3, .long x4), (0, .ref a0)], [.int ((rf_l m (a0 + 1) (Int32.toNatClampNeg (m.1 a0 0)) (a3 &&& 1073741823)).1 a0 0), .ref a0], rf_MM w (rf_l m (a0 + 1) (Int32.toNatClampNeg (m.1 a0 0)) (a3 &&& 1073741823)))
      refine rf_seg C [(.iconst 1, 1), (.iadd, 1)] (pc' := 66) (S' := ([(3, .long x4), (0, .ref a0)], [.int (((rf_l m (a0 + 1) (Int32.toNatClampNeg (m.1 a0 0)) (a3 &&& 1073741823)).1 a0 0) + 1), .ref a0], rf_MM w (rf_l m (a0 + 1) (Int32.toNatClampNeg (m.1 a0 0)) (a3 &&& 1073741823)))) (by decide +kernel) rfl trivial ?_
      refine rf_d_put C 1 0 (rf_isO_of q0) rfl (by decide +kernel) ?_
      show rf_V 5 (rf_sh w) K 0 0 69 ([(3, .long x4), (0, .ref a0)], [], rf_MM w (rf_i (rf_l m (a0 + 1) (Int32.toNatClampNeg (m.1 a0 0)) (a3 &&& 1073741823)) a0 0 (((rf_l m (a0 + 1) (Int32.toNatClampNeg (m.1 a0 0)) (a3 &&& 1073741823)).1 a0 0) + 1)))
      refine rf_goto C (-44) 25 (by decide +kernel) ?_
      refine rf_few [1, 0] rfl ?_
      exact hr25 a0 x4 (rf_i (rf_l m (a0 + 1) (Int32.toNatClampNeg (m.1 a0 0)) (a3 &&& 1073741823)) a0 0 (((rf_l m (a0 + 1) (Int32.toNatClampNeg (m.1 a0 0)) (a3 &&& 1073741823)).1 a0 0) + 1)) hg
theorem s_X1_setLong_25 {w : rf_w} {K : rf_K} {r : rf_m} (C : rf_Ctx 1 cX1_setLong 5 2 (rf_sh w) K) (hE : rf_End none K (rf_sh w) 0 0 none (rf_MM w r)) (n : Nat) : ∀ (a0 : Nat) (a3 : Int64) (m : rf_m), g_X1_setLong_25 w n a0 a3 m = some r → rf_V 5 (rf_sh w) K 0 0 25 ([(0, .ref a0), (3, .long a3)], [], rf_MM w m) := by
  induction n with
  | zero => intro a0 a3 m hg; cases hg
  | succ n ih => intro a0 a3 m hg; exact s_X1_setLong_25_b C hE ih a0 a3 m hg
theorem s_X1_setLong_12 {w : rf_w} {K : rf_K} {r : rf_m} (C : rf_Ctx 1 cX1_setLong 5 2 (rf_sh w) K) (hE : rf_End none K (rf_sh w) 0 0 none (rf_MM w r)) (a0 : Nat) (a1 : Int64) (s0 : Nat) (s1 : Int32) (m : rf_m) (hg : g_X1_setLong_12 w a0 a1 s0 s1 m = some r) : rf_V 5 (rf_sh w) K 0 0 12 ([(0, .ref a0), (1, .long a1)], [.int s1, .ref s0], rf_MM w m) := by
  unfold g_X1_setLong_12 at hg
  obtain ⟨q0, hg⟩ := rf_g_some hg
  obtain ⟨q1, hg⟩ := rf_g_some hg
  obtain ⟨q2, hg⟩ := rf_g_some hg
  obtain ⟨q3, hg⟩ := rf_g_some hg
  obtain ⟨q4, hg⟩ := rf_g_some hg
  obtain ⟨q5, hg⟩ := rf_g_some hg
  obtain ⟨q6, hg⟩ := rf_g_some hg
  refine rf_d_putz C 1 1 (rf_isO_of q3) rfl (rf_01_of q6) (by decide +kernel) ?_
  show rf_V 5 (rf_sh w) K 0 0 15 ([(0, .ref a0), (1, .long a1)], [], rf_MM w (rf_i m s0 1 s1))
  refine rf_seg C [(.lload 1, 1)] (pc' := 16) (S' := ([(0, .ref a0), (1, .long a1)], [.long a1], rf_MM w (rf_i m s0 1 s1))) (by decide +kernel) rfl trivial ?_
  obtain ⟨y7, m7, hc7, hg⟩ := rf_b_some hg
  refine rf_calls C rf_fit0 j_absL (As := [.long a1]) (rest := []) mw_absL (c_absL hc7) (by decide) lk_1_17 rfl rfl (Nat.le_of_ble_eq_true rfl) (by decide +kernel) ?_
  show rf_V 5 (rf_sh w) K 0 0 19 ([(0, .ref a0), (1, .long a1)], [.long y7], rf_MM w m7)
  refine rf_seg C [(.lstore 3, 1), (.aload 0, 1), (.iconst 0, 1)] (pc' := 22) (S' := ([(3, .long y7), (0, .ref a0), (1, .long a1)], [.int 0, .ref a0], rf_MM w m7)) (by decide +kernel) rfl trivial ?_
  refine rf_d_put C 1 0 (rf_isO_of q0) rfl (by decide +kernel) ?_
  show rf_V 5 (rf_sh w) K 0 0 25 ([(3, .long y7), (0, .ref a0), (1, .long a1)], [], rf_MM w (rf_i m7 a0 0 0))
  refine rf_few [1, 0] rfl ?_
  exact s_X1_setLong_25 C hE rf_fuel a0 y7 (rf_i m7 a0 0 0) hg
theorem c_X1_setLong {w : rf_w} {m : rf_m} {a0 : Nat} {a1 : Int64} {r : rf_m} (hg : g_X1_setLong w m a0 a1 = some r) : rf_Con j_X1_setLong 2 (rf_sh w) [.ref a0, .long a1] (rf_MM w m) none (rf_MM w r) := by
  refine rf_con j_X1_setLong 2 ⟨by decide +kernel, rfl, Nat.le_of_ble_eq_true rfl⟩ (fun K C hE => ?_)
  unfold g_X1_setLong at hg
  show rf_V 5 (rf_sh w) K 0 0 0 ([(0, .ref a0), (1, .long a1)], [], rf_MM w m)
  obtain ⟨q0, hg⟩ := rf_g_some hg
  obtain ⟨q1, hg⟩ := rf_g_some hg
  obtain ⟨q2, hg⟩ := rf_g_some hg
  refine rf_seg C [(.aload 0, 1), (.lload 1, 1), (.goto_w 0, 1), (.lcmp, 1)] (pc' := 4) (S' := ([(0, .ref a0), (1, .long a1)], [.int (lg_cmp a1 0), .ref a0], rf_MM w m)) (by decide +kernel) rfl trivial ?_
  refine rf_if_ge C 7 11 (by decide +kernel) (fun hc => ?_) (fun hc => ?_)
  · replace hg := (if_pos hc).symm.trans hg
    refine rf_seg C [(.iconst 0, 1)] (pc' := 12) (S' := ([(0, .ref a0), (1, .long a1)], [.int 0, .ref a0], rf_MM w m)) (by decide +kernel) rfl trivial ?_
    refine rf_few [0, 1] rfl ?_
    exact s_X1_setLong_12 C hE a0 a1 a0 0 m hg
  · replace hg := (if_neg hc).symm.trans hg
    refine rf_seg C [(.iconst 1, 1)] (pc' := 8) (S' := ([(0, .ref a0), (1, .long a1)], [.int 1, .ref a0], rf_MM w m)) (by decide +kernel) rfl trivial ?_
    refine rf_goto C 4 12 (by decide +kernel) ?_
    refine rf_few [0, 1] rfl ?_
    exact s_X1_setLong_12 C hE a0 a1 a0 1 m hg
-- X0_fillMatrix
abbrev j_X0_fillMatrix : rf_J := (0, yX0_fillMatrix, cX0_fillMatrix, 7, none)
theorem mw_X0_fillMatrix : rf_mv j_X0_fillMatrix (rf_R 0) 0 := ⟨⟨rf_mem 66 (by decide +kernel), rf_mem 66 (by decide +kernel), rf_mem 1 (by decide +kernel), rf_mem 66 (by decide +kernel)⟩, by decide +kernel, by decide⟩
def g_X0_fillMatrix_72 (w : rf_w) (rec2 : Int32 → rf_m → Option (rf_m)) (rec12 : Int32 → Int32 → rf_m → Option (rf_m)) (rec34 : Int32 → Int32 → Int32 → Int64 → Int32 → rf_m → Option (rf_m)) (a1 : Int32) (a2 : Int32) (a3 : Int32) (a4 : Int64) (a6 : Int32) (m : rf_m) : Option (rf_m) := rec34 a1 a2 a3 a4 (a6 + 1) m
def g_X0_fillMatrix_34_b (w : rf_w) (rec2 : Int32 → rf_m → Option (rf_m)) (rec12 : Int32 → Int32 → rf_m → Option (rf_m)) (rec34 : Int32 → Int32 → Int32 → Int64 → Int32 → rf_m → Option (rf_m)) (a1 : Int32) (a2 : Int32) (a3 : Int32) (a4 : Int64) (a6 : Int32) (m : rf_m) : Option (rf_m) := (if (m.1 26 6) ≤ a6 then rf_g (rf_in ((a1 * 7) + a2) 42) (rf_o (rf_Rt w 61 (Int32.toNatClampNeg ((a1 * 7) + a2))) fun k1 => rf_g (rf_isO w k1 1) (rf_g (rf_isR w k1 2 (k1 + 1)) (rf_g (rf_isA w (k1 + 1) .long 10) (rf_bv (g_X1_setLong w m k1 a4) fun m5 => rec12 a1 (a2 + 1) m5)))) else rf_g (rf_in a6 80) ((if ((m.1 56 (Int32.toNatClampNeg a6)) &&& a3) = a3 then rf_g (rf_in a6 80) (rf_vl (a4 + (Int32.toInt64 (m.1 57 (Int32.toNatClampNeg a6)))) fun x8 => g_X0_fillMatrix_72 w rec2 rec12 rec34 a1 a2 a3 x8 a6 m) else g_X0_fillMatrix_72 w rec2 rec12 rec34 a1 a2 a3 a4 a6 m)))
def g_X0_fillMatrix_34 (w : rf_w) (rec2 : Int32 → rf_m → Option (rf_m)) (rec12 : Int32 → Int32 → rf_m → Option (rf_m)) : Nat → Int32 → Int32 → Int32 → Int64 → Int32 → rf_m → Option (rf_m)
  | 0, _, _, _, _, _, _ => none
  | n + 1, a1, a2, a3, a4, a6, m => g_X0_fillMatrix_34_b w rec2 rec12 (g_X0_fillMatrix_34 w rec2 rec12 n) a1 a2 a3 a4 a6 m
def g_X0_fillMatrix_12_b (w : rf_w) (rec2 : Int32 → rf_m → Option (rf_m)) (rec12 : Int32 → Int32 → rf_m → Option (rf_m)) (a1 : Int32) (a2 : Int32) (m : rf_m) : Option (rf_m) := (if (m.1 55 8) ≤ a2 then rf_g (rf_in ((a1 * 7) + 6) 42) (rf_o (rf_Rt w 61 (Int32.toNatClampNeg ((a1 * 7) + 6))) fun k1 => rf_g (rf_isO w k1 1) (rf_g (rf_isR w k1 2 (k1 + 1)) (rf_g (rf_isA w (k1 + 1) .long 10) (rf_g (rf_in a1 6) (rf_bv (g_X1_setLong w m k1 (Int32.toInt64 (-(m.1 60 (Int32.toNatClampNeg a1))))) fun m6 => rec2 (a1 + 1) m6))))) else rf_vi (((1 : Int32) <<< (a1 &&& 31)) ||| ((1 : Int32) <<< (a2 &&& 31))) fun x7 => g_X0_fillMatrix_34 w rec2 rec12 rf_fuel a1 a2 x7 0 0 m)
def g_X0_fillMatrix_12 (w : rf_w) (rec2 : Int32 → rf_m → Option (rf_m)) : Nat → Int32 → Int32 → rf_m → Option (rf_m)
  | 0, _, _, _ => none
  | n + 1, a1, a2, m => g_X0_fillMatrix_12_b w rec2 (g_X0_fillMatrix_12 w rec2 n) a1 a2 m
def g_X0_fillMatrix_2_b (w : rf_w) (rec2 : Int32 → rf_m → Option (rf_m)) (a1 : Int32) (m : rf_m) : Option (rf_m) := (if (m.1 55 8) ≤ a1 then some m else g_X0_fillMatrix_12 w rec2 rf_fuel a1 0 m)
def g_X0_fillMatrix_2 (w : rf_w) : Nat → Int32 → rf_m → Option (rf_m)
  | 0, _, _ => none
  | n + 1, a1, m => g_X0_fillMatrix_2_b w (g_X0_fillMatrix_2 w n) a1 m
def g_X0_fillMatrix (w : rf_w) (m : rf_m) : Option (rf_m) := g_X0_fillMatrix_2 w rf_fuel 0 m
theorem s_X0_fillMatrix_72 {w : rf_w} {K : rf_K} {r : rf_m} (C : rf_Ctx 0 cX0_fillMatrix 7 3 (rf_sh w) K) (hE : rf_End none K (rf_sh w) 0 0 none (rf_MM w r)) {rec2 : Int32 → rf_m → Option (rf_m)} {rec12 : Int32 → Int32 → rf_m → Option (rf_m)} {rec34 : Int32 → Int32 → Int32 → Int64 → Int32 → rf_m → Option (rf_m)} (hr2 : ∀ (a1 : Int32) (m : rf_m), rec2 a1 m = some r → rf_V 7 (rf_sh w) K 0 0 2 ([(0, .ref 55), (1, .int a1)], [], rf_MM w m)) (hr12 : ∀ (a1 : Int32) (a2 : Int32) (m : rf_m), rec12 a1 a2 m = some r → rf_V 7 (rf_sh w) K 0 0 12 ([(0, .ref 55), (1, .int a1), (2, .int a2)], [], rf_MM w m)) (hr34 : ∀ (a1 : Int32) (a2 : Int32) (a3 : Int32) (a4 : Int64) (a6 : Int32) (m : rf_m), rec34 a1 a2 a3 a4 a6 m = some r → rf_V 7 (rf_sh w) K 0 0 34 ([(0, .ref 55), (1, .int a1), (2, .int a2), (3, .int a3), (4, .long a4), (6, .int a6)], [], rf_MM w m)) (a1 : Int32) (a2 : Int32) (a3 : Int32) (a4 : Int64) (a6 : Int32) (m : rf_m) (hg : g_X0_fillMatrix_72 w rec2 rec12 rec34 a1 a2 a3 a4 a6 m = some r) : rf_V 7 (rf_sh w) K 0 0 72 ([(0, .ref 55), (1, .int a1), (2, .int a2), (3, .int a3), (4, .long a4), (6, .int a6)], [], rf_MM w m) := by
  unfold g_X0_fillMatrix_72 at hg
  refine rf_seg C [(.iinc 6 1, 3)] (pc' := 75) (S' := ([(6, .int (a6 + 1)), (0, .ref 55), (1, .int a1), (2, .int a2), (3, .int a3), (4, .long a4)], [], rf_MM w m)) (by decide +kernel) rfl trivial ?_
  refine rf_goto C (-41) 34 (by decide +kernel) ?_
  refine rf_few [1, 2, 3, 4, 5, 0] rfl ?_
  exact hr34 a1 a2 a3 a4 (a6 + 1) m hg
theorem s_X0_fillMatrix_34_b {w : rf_w} {K : rf_K} {r : rf_m} (C : rf_Ctx 0 cX0_fillMatrix 7 3 (rf_sh w) K) (hE : rf_End none K (rf_sh w) 0 0 none (rf_MM w r)) {rec2 : Int32 → rf_m → Option (rf_m)} {rec12 : Int32 → Int32 → rf_m → Option (rf_m)} {rec34 : Int32 → Int32 → Int32 → Int64 → Int32 → rf_m → Option (rf_m)} (hr2 : ∀ (a1 : Int32) (m : rf_m), rec2 a1 m = some r → rf_V 7 (rf_sh w) K 0 0 2 ([(0, .ref 55), (1, .int a1)], [], rf_MM w m)) (hr12 : ∀ (a1 : Int32) (a2 : Int32) (m : rf_m), rec12 a1 a2 m = some r → rf_V 7 (rf_sh w) K 0 0 12 ([(0, .ref 55), (1, .int a1), (2, .int a2)], [], rf_MM w m)) (hr34 : ∀ (a1 : Int32) (a2 : Int32) (a3 : Int32) (a4 : Int64) (a6 : Int32) (m : rf_m), rec34 a1 a2 a3 a4 a6 m = some r → rf_V 7 (rf_sh w) K 0 0 34 ([(0, .ref 55), (1, .int a1), (2, .int a2), (3, .int a3), (4, .long a4), (6, .int a6)], [], rf_MM w m)) (a1 : Int32) (a2 : Int32) (a3 : Int32) (a4 : Int64) (a6 : Int32) (m : rf_m) (hg : g_X0_fillMatrix_34_b w rec2 rec12 rec34 a1 a2 a3 a4 a6 m = some r) : rf_V 7 (rf_sh w) K 0 0 34 ([(0, .ref 55), (1, .int a1), (2, .int a2), (3, .int a3), (4, .long a4), (6, .int a6)], [], rf_MM w m) := by
  unfold g_X0_fillMatrix_34_b at hg
  refine rf_seg C [(.iload 6, 2), (.aload 0, 1), (.invokeinterface 0 1, 3), (.invokeinterface 3 6, 3)] (pc' := 43) (S' := ([(0, .ref 55), (1, .int a1), (2, .int a2), (3, .int a3), (4, .long a4), (6, .int a6)], [.int (m.1 26 6), .int a6], rf_MM w m)) (by decide +kernel) rfl trivial ?_
  refine rf_icmp_ge C 35 78 (by decide +kernel) (fun hc => ?_) (fun hc => ?_)
  · replace hg := (if_pos hc).symm.trans hg
    refine rf_seg C [(.aload 0, 1), (.invokeinterface 0 9, 3), (.iload 1, 1), (.iconst 7, 2), (.imul, 1), (.iload 2, 1), (.iadd, 1)] (pc' := 88) (S' := ([(0, .ref 55), (1, .int a1), (2, .int a2), (3, .int a3), (4, .long a4), (6, .int a6)], [.int ((a1 * 7) + a2), .ref 61], rf_MM w m)) (by decide +kernel) rfl trivial ?_
    obtain ⟨q0, hg⟩ := rf_g_some hg
    obtain ⟨k1, hk1, hg⟩ := rf_o_some hg
    refine rf_d_aaload C (n := 42) (q := k1) rfl (rf_in_of q0) hk1 (by decide +kernel) ?_
    obtain ⟨q2, hg⟩ := rf_g_some hg
    obtain ⟨q3, hg⟩ := rf_g_some hg
    obtain ⟨q4, hg⟩ := rf_g_some hg
    show rf_V 7 (rf_sh w) K 0 0 89 ([(0, .ref 55), (1, .int a1), (2, .int a2), (3, .int a3), (4, .long a4), (6, .int a6)], [.ref k1], rf_MM w m)
    refine rf_seg C [(.lload 4, 2)] (pc' := 91) (S' := ([(0, .ref 55), (1, .int a1), (2, .int a2), (3, .int a3), (4, .long a4), (6, .int a6)], [.long a4, .ref k1], rf_MM w m)) (by decide +kernel) rfl trivial ?_
    obtain ⟨m5, hc5, hg⟩ := rf_bv_some hg
    refine rf_callv C rf_fit0 j_X1_setLong (ci := 1) (As := [.long a4]) (rest := []) mw_X1_setLong (c_X1_setLong hc5) (by decide) (rf_isO_of q2) (by decide) lk_0_131 rfl rfl (Nat.le_of_ble_eq_true rfl) (by decide +kernel) ?_
    show rf_V 7 (rf_sh w) K 0 0 94 ([(0, .ref 55), (1, .int a1), (2, .int a2), (3, .int a3), (4, .long a4), (6, .int a6)], [], rf_MM w m5)
    refine rf_seg C [(.iinc 2 1, 3)] (pc' := 97) (S' := ([(2, .int (a2 + 1)), (0, .ref 55), (1, .int a1), (3, .int a3), (4, .long a4), (6, .int a6)], [], rf_MM w m5)) (by decide +kernel) rfl trivial ?_
    refine rf_goto C (-85) 12 (by decide +kernel) ?_
    refine rf_few [1, 2, 0] rfl ?_
    exact hr12 a1 (a2 + 1) m5 hg
  · replace hg := (if_neg hc).symm.trans hg
    obtain ⟨q6, hg⟩ := rf_g_some hg
    refine rf_seg C [(.aload 0, 1), (.invokeinterface 0 3, 3), (.iload 6, 2), (.iaload, 1), (.iload 3, 1), (.iand, 1), (.iload 3, 1)] (pc' := 56) (S' := ([(0, .ref 55), (1, .int a1), (2, .int a2), (3, .int a3), (4, .long a4), (6, .int a6)], [.int a3, .int ((m.1 56 (Int32.toNatClampNeg a6)) &&& a3)], rf_MM w m)) (by decide +kernel) rfl (rf_in_of q6) ?_
    refine rf_icmp_ne C 16 72 (by decide +kernel) (fun hc => ?_) (fun hc => ?_)
    · replace hg := (if_neg hc).symm.trans hg
      refine rf_few [0, 1, 2, 3, 4, 5] rfl ?_
      exact s_X0_fillMatrix_72 C hE hr2 hr12 hr34 a1 a2 a3 a4 a6 m hg
    · replace hg := (if_pos hc).symm.trans hg
      obtain ⟨q7, hg⟩ := rf_g_some hg
      refine rf_seg C [(.lload 4, 2), (.aload 0, 1), (.invokeinterface 0 4, 3), (.iload 6, 2), (.iaload, 1), (.i2l, 1), (.ladd, 1)] (pc' := 70) (S' := ([(0, .ref 55), (1, .int a1), (2, .int a2), (3, .int a3), (4, .long a4), (6, .int a6)], [.long (a4 + (Int32.toInt64 (m.1 57 (Int32.toNatClampNeg a6))))], rf_MM w m)) (by decide +kernel) rfl (rf_in_of q7) ?_
      obtain ⟨x8, hx8, hg⟩ := rf_vl_some hg
      refine rf_vl_top hx8 ?_
      refine rf_seg C [(.lstore 4, 2)] (pc' := 72) (S' := ([(4, .long x8), (0, .ref 55), (1, .int a1), (2, .int a2), (3, .int a3), (6, .int a6)], [], rf_MM w m)) (by decide +kernel) rfl trivial ?_
      refine rf_few [1, 2, 3, 4, 0, 5] rfl ?_
      exact s_X0_fillMatrix_72 C hE hr2 hr12 hr34 a1 a2 a3 x8 a6 m hg
theorem s_X0_fillMatrix_34 {w : rf_w} {K : rf_K} {r : rf_m} (C : rf_Ctx 0 cX0_fillMatrix 7 3 (rf_sh w) K) (hE : rf_End none K (rf_sh w) 0 0 none (rf_MM w r)) {rec2 : Int32 → rf_m → Option (rf_m)} {rec12 : Int32 → Int32 → rf_m → Option (rf_m)} (hr2 : ∀ (a1 : Int32) (m : rf_m), rec2 a1 m = some r → rf_V 7 (rf_sh w) K 0 0 2 ([(0, .ref 55), (1, .int a1)], [], rf_MM w m)) (hr12 : ∀ (a1 : Int32) (a2 : Int32) (m : rf_m), rec12 a1 a2 m = some r → rf_V 7 (rf_sh w) K 0 0 12 ([(0, .ref 55), (1, .int a1), (2, .int a2)], [], rf_MM w m)) (n : Nat) : ∀ (a1 : Int32) (a2 : Int32) (a3 : Int32) (a4 : Int64) (a6 : Int32) (m : rf_m), g_X0_fillMatrix_34 w rec2 rec12 n a1 a2 a3 a4 a6 m = some r → rf_V 7 (rf_sh w) K 0 0 34 ([(0, .ref 55), (1, .int a1), (2, .int a2), (3, .int a3), (4, .long a4), (6, .int a6)], [], rf_MM w m) := by
  induction n with
  | zero => intro a1 a2 a3 a4 a6 m hg; cases hg
  | succ n ih => intro a1 a2 a3 a4 a6 m hg; exact s_X0_fillMatrix_34_b C hE hr2 hr12 ih a1 a2 a3 a4 a6 m hg
theorem s_X0_fillMatrix_12_b {w : rf_w} {K : rf_K} {r : rf_m} (C : rf_Ctx 0 cX0_fillMatrix 7 3 (rf_sh w) K) (hE : rf_End none K (rf_sh w) 0 0 none (rf_MM w r)) {rec2 : Int32 → rf_m → Option (rf_m)} {rec12 : Int32 → Int32 → rf_m → Option (rf_m)} (hr2 : ∀ (a1 : Int32) (m : rf_m), rec2 a1 m = some r → rf_V 7 (rf_sh w) K 0 0 2 ([(0, .ref 55), (1, .int a1)], [], rf_MM w m)) (hr12 : ∀ (a1 : Int32) (a2 : Int32) (m : rf_m), rec12 a1 a2 m = some r → rf_V 7 (rf_sh w) K 0 0 12 ([(0, .ref 55), (1, .int a1), (2, .int a2)], [], rf_MM w m)) (a1 : Int32) (a2 : Int32) (m : rf_m) (hg : g_X0_fillMatrix_12_b w rec2 rec12 a1 a2 m = some r) : rf_V 7 (rf_sh w) K 0 0 12 ([(0, .ref 55), (1, .int a1), (2, .int a2)], [], rf_MM w m) := by
  unfold g_X0_fillMatrix_12_b at hg
  refine rf_seg C [(.iload 2, 1), (.aload 0, 1), (.invokeinterface 0 8, 3)] (pc' := 17) (S' := ([(0, .ref 55), (1, .int a1), (2, .int a2)], [.int (m.1 55 8), .int a2], rf_MM w m)) (by decide +kernel) rfl trivial ?_
  refine rf_icmp_ge C 83 100 (by decide +kernel) (fun hc => ?_) (fun hc => ?_)
  · replace hg := (if_pos hc).symm.trans hg
    refine rf_seg C [(.aload 0, 1), (.invokeinterface 0 9, 3), (.iload 1, 1), (.iconst 7, 2), (.imul, 1), (.iconst 6, 2), (.iadd, 1)] (pc' := 111) (S' := ([(0, .ref 55), (1, .int a1), (2, .int a2)], [.int ((a1 * 7) + 6), .ref 61], rf_MM w m)) (by decide +kernel) rfl trivial ?_
    obtain ⟨q0, hg⟩ := rf_g_some hg
    obtain ⟨k1, hk1, hg⟩ := rf_o_some hg
    refine rf_d_aaload C (n := 42) (q := k1) rfl (rf_in_of q0) hk1 (by decide +kernel) ?_
    obtain ⟨q2, hg⟩ := rf_g_some hg
    obtain ⟨q3, hg⟩ := rf_g_some hg
    obtain ⟨q4, hg⟩ := rf_g_some hg
    show rf_V 7 (rf_sh w) K 0 0 112 ([(0, .ref 55), (1, .int a1), (2, .int a2)], [.ref k1], rf_MM w m)
    obtain ⟨q5, hg⟩ := rf_g_some hg
    refine rf_seg C [(.aload 0, 1), (.invokeinterface 0 7, 3), (.iload 1, 1), (.iaload, 1), (.ineg, 1), (.i2l, 1)] (pc' := 120) (S' := ([(0, .ref 55), (1, .int a1), (2, .int a2)], [.long (Int32.toInt64 (-(m.1 60 (Int32.toNatClampNeg a1)))), .ref k1], rf_MM w m)) (by decide +kernel) rfl (rf_in_of q5) ?_
    obtain ⟨m6, hc6, hg⟩ := rf_bv_some hg
    refine rf_callv C rf_fit0 j_X1_setLong (ci := 1) (As := [.long (Int32.toInt64 (-(m.1 60 (Int32.toNatClampNeg a1))))]) (rest := []) mw_X1_setLong (c_X1_setLong hc6) (by decide) (rf_isO_of q2) (by decide) lk_0_131 rfl rfl (Nat.le_of_ble_eq_true rfl) (by decide +kernel) ?_
    show rf_V 7 (rf_sh w) K 0 0 123 ([(0, .ref 55), (1, .int a1), (2, .int a2)], [], rf_MM w m6)
    refine rf_seg C [(.iinc 1 1, 3)] (pc' := 126) (S' := ([(1, .int (a1 + 1)), (0, .ref 55), (2, .int a2)], [], rf_MM w m6)) (by decide +kernel) rfl trivial ?_
    refine rf_goto C (-124) 2 (by decide +kernel) ?_
    refine rf_few [1, 0] rfl ?_
    exact hr2 (a1 + 1) m6 hg
  · replace hg := (if_neg hc).symm.trans hg
    refine rf_seg C [(.iconst 1, 1), (.iload 1, 1), (.ishl, 1), (.iconst 1, 1), (.iload 2, 1), (.ishl, 1), (.ior, 1)] (pc' := 27) (S' := ([(0, .ref 55), (1, .int a1), (2, .int a2)], [.int (((1 : Int32) <<< (a1 &&& 31)) ||| ((1 : Int32) <<< (a2 &&& 31)))], rf_MM w m)) (by decide +kernel) rfl trivial ?_
    obtain ⟨x7, hx7, hg⟩ := rf_vi_some hg
    refine rf_vi_top hx7 ?_
    refine rf_seg C [(.istore 3, 1), (.goto_w 0, 1), (.lstore 4, 2), (.iconst 0, 1), (.istore 6, 2)] (pc' := 34) (S' := ([(6, .int 0), (4, .long 0), (3, .int x7), (0, .ref 55), (1, .int a1), (2, .int a2)], [], rf_MM w m)) (by decide +kernel) rfl trivial ?_
    refine rf_few [3, 4, 5, 2, 1, 0] rfl ?_
    exact s_X0_fillMatrix_34 C hE hr2 hr12 rf_fuel a1 a2 x7 0 0 m hg
theorem s_X0_fillMatrix_12 {w : rf_w} {K : rf_K} {r : rf_m} (C : rf_Ctx 0 cX0_fillMatrix 7 3 (rf_sh w) K) (hE : rf_End none K (rf_sh w) 0 0 none (rf_MM w r)) {rec2 : Int32 → rf_m → Option (rf_m)} (hr2 : ∀ (a1 : Int32) (m : rf_m), rec2 a1 m = some r → rf_V 7 (rf_sh w) K 0 0 2 ([(0, .ref 55), (1, .int a1)], [], rf_MM w m)) (n : Nat) : ∀ (a1 : Int32) (a2 : Int32) (m : rf_m), g_X0_fillMatrix_12 w rec2 n a1 a2 m = some r → rf_V 7 (rf_sh w) K 0 0 12 ([(0, .ref 55), (1, .int a1), (2, .int a2)], [], rf_MM w m) := by
  induction n with
  | zero => intro a1 a2 m hg; cases hg
  | succ n ih => intro a1 a2 m hg; exact s_X0_fillMatrix_12_b C hE hr2 ih a1 a2 m hg
theorem s_X0_fillMatrix_2_b {w : rf_w} {K : rf_K} {r : rf_m} (C : rf_Ctx 0 cX0_fillMatrix 7 3 (rf_sh w) K) (hE : rf_End none K (rf_sh w) 0 0 none (rf_MM w r)) {rec2 : Int32 → rf_m → Option (rf_m)} (hr2 : ∀ (a1 : Int32) (m : rf_m), rec2 a1 m = some r → rf_V 7 (rf_sh w) K 0 0 2 ([(0, .ref 55), (1, .int a1)], [], rf_MM w m)) (a1 : Int32) (m : rf_m) (hg : g_X0_fillMatrix_2_b w rec2 a1 m = some r) : rf_V 7 (rf_sh w) K 0 0 2 ([(0, .ref 55), (1, .int a1)], [], rf_MM w m) := by
  unfold g_X0_fillMatrix_2_b at hg
  refine rf_seg C [(.iload 1, 1), (.aload 0, 1), (.invokeinterface 0 8, 3)] (pc' := 7) (S' := ([(0, .ref 55), (1, .int a1)], [.int (m.1 55 8), .int a1], rf_MM w m)) (by decide +kernel) rfl trivial ?_
  refine rf_icmp_ge C 122 129 (by decide +kernel) (fun hc => ?_) (fun hc => ?_)
  · replace hg := (if_pos hc).symm.trans hg
    obtain rfl := Option.some.inj hg
    exact rf_vret C hE (by decide +kernel)
  · replace hg := (if_neg hc).symm.trans hg
    refine rf_seg C [(.iconst 0, 1), (.istore 2, 1)] (pc' := 12) (S' := ([(2, .int 0), (0, .ref 55), (1, .int a1)], [], rf_MM w m)) (by decide +kernel) rfl trivial ?_
    refine rf_few [1, 2, 0] rfl ?_
    exact s_X0_fillMatrix_12 C hE hr2 rf_fuel a1 0 m hg
theorem s_X0_fillMatrix_2 {w : rf_w} {K : rf_K} {r : rf_m} (C : rf_Ctx 0 cX0_fillMatrix 7 3 (rf_sh w) K) (hE : rf_End none K (rf_sh w) 0 0 none (rf_MM w r)) (n : Nat) : ∀ (a1 : Int32) (m : rf_m), g_X0_fillMatrix_2 w n a1 m = some r → rf_V 7 (rf_sh w) K 0 0 2 ([(0, .ref 55), (1, .int a1)], [], rf_MM w m) := by
  induction n with
  | zero => intro a1 m hg; cases hg
  | succ n ih => intro a1 m hg; exact s_X0_fillMatrix_2_b C hE ih a1 m hg
theorem c_X0_fillMatrix {w : rf_w} {m : rf_m} {r : rf_m} (hg : g_X0_fillMatrix w m = some r) : rf_Con j_X0_fillMatrix 3 (rf_sh w) [.ref 55] (rf_MM w m) none (rf_MM w r) := by
  refine rf_con j_X0_fillMatrix 3 ⟨by decide +kernel, rfl, Nat.le_of_ble_eq_true rfl⟩ (fun K C hE => ?_)
  unfold g_X0_fillMatrix at hg
  show rf_V 7 (rf_sh w) K 0 0 0 ([(0, .ref 55)], [], rf_MM w m)
  refine rf_seg C [(.iconst 0, 1), (.istore 1, 1)] (pc' := 2) (S' := ([(1, .int 0), (0, .ref 55)], [], rf_MM w m)) (by decide +kernel) rfl trivial ?_
  refine rf_few [1, 0] rfl ?_
  exact s_X0_fillMatrix_2 C hE rf_fuel 0 m hg
-- X0_solve
abbrev j_X0_solve : rf_J := (0, yX0_solve, cX0_solve, 4, (some .boolean))
theorem mw_X0_solve : rf_mv j_X0_solve (rf_R 0) 0 := ⟨⟨rf_mem 66 (by decide +kernel), rf_mem 66 (by decide +kernel), rf_mem 1 (by decide +kernel), rf_mem 66 (by decide +kernel)⟩, by decide +kernel, by decide⟩
def g_X0_solve_65 (w : rf_w) (rec14 : Int32 → rf_m → Option (Int32 × rf_m)) (rec45 : Int32 → Nat → Int32 → rf_m → Option (Int32 × rf_m)) (a1 : Int32) (a2 : Nat) (a3 : Int32) (m : rf_m) : Option (Int32 × rf_m) := rf_g (rf_isO w a2 1) (rf_g (rf_isR w a2 2 (a2 + 1)) (rf_g (rf_isA w (a2 + 1) .long 10) (rec45 a1 a2 (a3 + 1) m)))
def g_X0_solve_45_b (w : rf_w) (rec14 : Int32 → rf_m → Option (Int32 × rf_m)) (rec45 : Int32 → Nat → Int32 → rf_m → Option (Int32 × rf_m)) (a1 : Int32) (a2 : Nat) (a3 : Int32) (m : rf_m) : Option (Int32 × rf_m) := rf_g (rf_isO w a2 1) (rf_g (rf_isR w a2 2 (a2 + 1)) (rf_g (rf_isA w (a2 + 1) .long 10) ((if (m.1 55 8) ≤ a3 then rf_bv (g_X1_copyFrom w m 65 a2) fun m3 => rec14 (a1 + 1) m3 else (if a3 = a1 then g_X0_solve_65 w rec14 rec45 a1 a2 a3 m else rf_bv (g_X0_eliminate w m a3 a1 a2) fun m4 => g_X0_solve_65 w rec14 rec45 a1 a2 a3 m4)))))
def g_X0_solve_45 (w : rf_w) (rec14 : Int32 → rf_m → Option (Int32 × rf_m)) : Nat → Int32 → Nat → Int32 → rf_m → Option (Int32 × rf_m)
  | 0, _, _, _, _ => none
  | n + 1, a1, a2, a3, m => g_X0_solve_45_b w rec14 (g_X0_solve_45 w rec14 n) a1 a2 a3 m
def g_X0_solve_14_b (w : rf_w) (rec14 : Int32 → rf_m → Option (Int32 × rf_m)) (a1 : Int32) (m : rf_m) : Option (Int32 × rf_m) := (if (m.1 55 8) ≤ a1 then some (1, m) else rf_g (rf_in ((a1 * 7) + a1) 42) (rf_o (rf_Rt w 61 (Int32.toNatClampNeg ((a1 * 7) + a1))) fun k1 => rf_g (rf_isO w k1 1) (rf_g (rf_isR w k1 2 (k1 + 1)) (rf_g (rf_isA w (k1 + 1) .long 10) ((if (m.1 k1 0) = 0 then some (0, m) else g_X0_solve_45 w rec14 rf_fuel a1 k1 0 m))))))
def g_X0_solve_14 (w : rf_w) : Nat → Int32 → rf_m → Option (Int32 × rf_m)
  | 0, _, _ => none
  | n + 1, a1, m => g_X0_solve_14_b w (g_X0_solve_14 w n) a1 m
def g_X0_solve (w : rf_w) (m : rf_m) : Option (Int32 × rf_m) := rf_bv (g_X0_fillMatrix w m) fun m0 => rf_bv (g_X1_setLong w m0 65 1) fun m1 => g_X0_solve_14 w rf_fuel 0 m1
theorem s_X0_solve_65 {w : rf_w} {K : rf_K} {r : Int32 × rf_m} (C : rf_Ctx 0 cX0_solve 4 6 (rf_sh w) K) (hE : rf_End (some .boolean) K (rf_sh w) 0 0 (some (.int r.1)) (rf_MM w r.2)) {rec14 : Int32 → rf_m → Option (Int32 × rf_m)} {rec45 : Int32 → Nat → Int32 → rf_m → Option (Int32 × rf_m)} (hr14 : ∀ (a1 : Int32) (m : rf_m), rec14 a1 m = some r → rf_V 4 (rf_sh w) K 0 0 14 ([(0, .ref 55), (1, .int a1)], [], rf_MM w m)) (hr45 : ∀ (a1 : Int32) (a2 : Nat) (a3 : Int32) (m : rf_m), rec45 a1 a2 a3 m = some r → rf_V 4 (rf_sh w) K 0 0 45 ([(0, .ref 55), (1, .int a1), (2, .ref a2), (3, .int a3)], [], rf_MM w m)) (a1 : Int32) (a2 : Nat) (a3 : Int32) (m : rf_m) (hg : g_X0_solve_65 w rec14 rec45 a1 a2 a3 m = some r) : rf_V 4 (rf_sh w) K 0 0 65 ([(0, .ref 55), (1, .int a1), (2, .ref a2), (3, .int a3)], [], rf_MM w m) := by
  unfold g_X0_solve_65 at hg
  obtain ⟨q0, hg⟩ := rf_g_some hg
  obtain ⟨q1, hg⟩ := rf_g_some hg
  obtain ⟨q2, hg⟩ := rf_g_some hg
  refine rf_seg C [(.iinc 3 1, 3)] (pc' := 68) (S' := ([(3, .int (a3 + 1)), (0, .ref 55), (1, .int a1), (2, .ref a2)], [], rf_MM w m)) (by decide +kernel) rfl trivial ?_
  refine rf_goto C (-23) 45 (by decide +kernel) ?_
  refine rf_few [1, 2, 3, 0] rfl ?_
  exact hr45 a1 a2 (a3 + 1) m hg
theorem s_X0_solve_45_b {w : rf_w} {K : rf_K} {r : Int32 × rf_m} (C : rf_Ctx 0 cX0_solve 4 6 (rf_sh w) K) (hE : rf_End (some .boolean) K (rf_sh w) 0 0 (some (.int r.1)) (rf_MM w r.2)) {rec14 : Int32 → rf_m → Option (Int32 × rf_m)} {rec45 : Int32 → Nat → Int32 → rf_m → Option (Int32 × rf_m)} (hr14 : ∀ (a1 : Int32) (m : rf_m), rec14 a1 m = some r → rf_V 4 (rf_sh w) K 0 0 14 ([(0, .ref 55), (1, .int a1)], [], rf_MM w m)) (hr45 : ∀ (a1 : Int32) (a2 : Nat) (a3 : Int32) (m : rf_m), rec45 a1 a2 a3 m = some r → rf_V 4 (rf_sh w) K 0 0 45 ([(0, .ref 55), (1, .int a1), (2, .ref a2), (3, .int a3)], [], rf_MM w m)) (a1 : Int32) (a2 : Nat) (a3 : Int32) (m : rf_m) (hg : g_X0_solve_45_b w rec14 rec45 a1 a2 a3 m = some r) : rf_V 4 (rf_sh w) K 0 0 45 ([(0, .ref 55), (1, .int a1), (2, .ref a2), (3, .int a3)], [], rf_MM w m) := by
  unfold g_X0_solve_45_b at hg
  obtain ⟨q0, hg⟩ := rf_g_some hg
  obtain ⟨q1, hg⟩ := rf_g_some hg
  obtain ⟨q2, hg⟩ := rf_g_some hg
  refine rf_seg C [(.iload 3, 1), (.aload 0, 1), (.invokeinterface 0 8, 3)] (pc' := 50) (S' := ([(0, .ref 55), (1, .int a1), (2, .ref a2), (3, .int a3)], [.int (m.1 55 8), .int a3], rf_MM w m)) (by decide +kernel) rfl trivial ?_
  refine rf_icmp_ge C 21 71 (by decide +kernel) (fun hc => ?_) (fun hc => ?_)
  · replace hg := (if_pos hc).symm.trans hg
    refine rf_seg C [(.aload 0, 1), (.invokeinterface 0 12, 3), (.aload 2, 1)] (pc' := 76) (S' := ([(0, .ref 55), (1, .int a1), (2, .ref a2), (3, .int a3)], [.ref a2, .ref 65], rf_MM w m)) (by decide +kernel) rfl trivial ?_
    obtain ⟨m3, hc3, hg⟩ := rf_bv_some hg
    refine rf_callv C rf_fit0 j_X1_copyFrom (ci := 1) (As := [.ref a2]) (rest := []) mw_X1_copyFrom (c_X1_copyFrom hc3) (by decide) rfl (by decide) lk_0_142 rfl rfl (Nat.le_of_ble_eq_true rfl) (by decide +kernel) ?_
    show rf_V 4 (rf_sh w) K 0 0 79 ([(0, .ref 55), (1, .int a1), (2, .ref a2), (3, .int a3)], [], rf_MM w m3)
    refine rf_seg C [(.iinc 1 1, 3)] (pc' := 82) (S' := ([(1, .int (a1 + 1)), (0, .ref 55), (2, .ref a2), (3, .int a3)], [], rf_MM w m3)) (by decide +kernel) rfl trivial ?_
    refine rf_goto C (-68) 14 (by decide +kernel) ?_
    refine rf_few [1, 0] rfl ?_
    exact hr14 (a1 + 1) m3 hg
  · replace hg := (if_neg hc).symm.trans hg
    refine rf_seg C [(.iload 3, 1), (.iload 1, 1)] (pc' := 55) (S' := ([(0, .ref 55), (1, .int a1), (2, .ref a2), (3, .int a3)], [.int a1, .int a3], rf_MM w m)) (by decide +kernel) rfl trivial ?_
    refine rf_icmp_eq C 10 65 (by decide +kernel) (fun hc => ?_) (fun hc => ?_)
    · replace hg := (if_pos hc).symm.trans hg
      refine rf_few [0, 1, 2, 3] rfl ?_
      exact s_X0_solve_65 C hE hr14 hr45 a1 a2 a3 m hg
    · replace hg := (if_neg hc).symm.trans hg
      refine rf_seg C [(.aload 0, 1), (.iload 3, 1), (.iload 1, 1), (.aload 2, 1)] (pc' := 62) (S' := ([(0, .ref 55), (1, .int a1), (2, .ref a2), (3, .int a3)], [.ref a2, .int a1, .int a3, .ref 55], rf_MM w m)) (by decide +kernel) rfl trivial ?_
      obtain ⟨m4, hc4, hg⟩ := rf_bv_some hg
      refine rf_callv C rf_fit0 j_X0_eliminate (ci := 0) (As := [.int a3, .int a1, .ref a2]) (rest := []) mw_X0_eliminate (c_X0_eliminate hc4) (by decide) rfl (by decide) lk_0_138 rfl rfl (Nat.le_of_ble_eq_true rfl) (by decide +kernel) ?_
      show rf_V 4 (rf_sh w) K 0 0 65 ([(0, .ref 55), (1, .int a1), (2, .ref a2), (3, .int a3)], [], rf_MM w m4)
      refine rf_few [0, 1, 2, 3] rfl ?_
      exact s_X0_solve_65 C hE hr14 hr45 a1 a2 a3 m4 hg
theorem s_X0_solve_45 {w : rf_w} {K : rf_K} {r : Int32 × rf_m} (C : rf_Ctx 0 cX0_solve 4 6 (rf_sh w) K) (hE : rf_End (some .boolean) K (rf_sh w) 0 0 (some (.int r.1)) (rf_MM w r.2)) {rec14 : Int32 → rf_m → Option (Int32 × rf_m)} (hr14 : ∀ (a1 : Int32) (m : rf_m), rec14 a1 m = some r → rf_V 4 (rf_sh w) K 0 0 14 ([(0, .ref 55), (1, .int a1)], [], rf_MM w m)) (n : Nat) : ∀ (a1 : Int32) (a2 : Nat) (a3 : Int32) (m : rf_m), g_X0_solve_45 w rec14 n a1 a2 a3 m = some r → rf_V 4 (rf_sh w) K 0 0 45 ([(0, .ref 55), (1, .int a1), (2, .ref a2), (3, .int a3)], [], rf_MM w m) := by
  induction n with
  | zero => intro a1 a2 a3 m hg; cases hg
  | succ n ih => intro a1 a2 a3 m hg; exact s_X0_solve_45_b C hE hr14 ih a1 a2 a3 m hg
theorem s_X0_solve_14_b {w : rf_w} {K : rf_K} {r : Int32 × rf_m} (C : rf_Ctx 0 cX0_solve 4 6 (rf_sh w) K) (hE : rf_End (some .boolean) K (rf_sh w) 0 0 (some (.int r.1)) (rf_MM w r.2)) {rec14 : Int32 → rf_m → Option (Int32 × rf_m)} (hr14 : ∀ (a1 : Int32) (m : rf_m), rec14 a1 m = some r → rf_V 4 (rf_sh w) K 0 0 14 ([(0, .ref 55), (1, .int a1)], [], rf_MM w m)) (a1 : Int32) (m : rf_m) (hg : g_X0_solve_14_b w rec14 a1 m = some r) : rf_V 4 (rf_sh w) K 0 0 14 ([(0, .ref 55), (1, .int a1)], [], rf_MM w m) := by
  unfold g_X0_solve_14_b at hg
  refine rf_seg C [(.iload 1, 1), (.aload 0, 1), (.invokeinterface 0 8, 3)] (pc' := 19) (S' := ([(0, .ref 55), (1, .int a1)], [.int (m.1 55 8), .int a1], rf_MM w m)) (by decide +kernel) rfl trivial ?_
  refine rf_icmp_ge C 66 85 (by decide +kernel) (fun hc => ?_) (fun hc => ?_)
  · replace hg := (if_pos hc).symm.trans hg
    refine rf_seg C [(.iconst 1, 1)] (pc' := 86) (S' := ([(0, .ref 55), (1, .int a1)], [.int 1], rf_MM w m)) (by decide +kernel) rfl trivial ?_
    obtain rfl := Option.some.inj hg
    exact rf_zret C hE (by decide) (by decide +kernel)
  · replace hg := (if_neg hc).symm.trans hg
    refine rf_seg C [(.aload 0, 1), (.invokeinterface 0 9, 3), (.iload 1, 1), (.iconst 7, 2), (.imul, 1), (.iload 1, 1), (.iadd, 1)] (pc' := 32) (S' := ([(0, .ref 55), (1, .int a1)], [.int ((a1 * 7) + a1), .ref 61], rf_MM w m)) (by decide +kernel) rfl trivial ?_
    obtain ⟨q0, hg⟩ := rf_g_some hg
    obtain ⟨k1, hk1, hg⟩ := rf_o_some hg
    refine rf_d_aaload C (n := 42) (q := k1) rfl (rf_in_of q0) hk1 (by decide +kernel) ?_
    obtain ⟨q2, hg⟩ := rf_g_some hg
    obtain ⟨q3, hg⟩ := rf_g_some hg
    obtain ⟨q4, hg⟩ := rf_g_some hg
    show rf_V 4 (rf_sh w) K 0 0 33 ([(0, .ref 55), (1, .int a1)], [.ref k1], rf_MM w m)
    refine rf_seg C [(.astore 2, 1), (.aload 2, 1)] (pc' := 35) (S' := ([(2, .ref k1), (0, .ref 55), (1, .int a1)], [.ref k1], rf_MM w m)) (by decide +kernel) rfl trivial ?_
    refine rf_d_get C 1 0 (rf_isO_of q2) (by decide +kernel) ?_
    show rf_V 4 (rf_sh w) K 0 0 38 ([(2, .ref k1), (0, .ref 55), (1, .int a1)], [.int (m.1 k1 0)], rf_MM w m)
    refine rf_if_ne C 5 43 (by decide +kernel) (fun hc => ?_) (fun hc => ?_)
    · replace hg := (if_neg hc).symm.trans hg
      refine rf_seg C [(.iconst 0, 1), (.istore 3, 1)] (pc' := 45) (S' := ([(3, .int 0), (2, .ref k1), (0, .ref 55), (1, .int a1)], [], rf_MM w m)) (by decide +kernel) rfl trivial ?_
      refine rf_few [2, 3, 1, 0] rfl ?_
      exact s_X0_solve_45 C hE hr14 rf_fuel a1 k1 0 m hg
    · replace hg := (if_pos hc).symm.trans hg
      refine rf_seg C [(.iconst 0, 1)] (pc' := 42) (S' := ([(2, .ref k1), (0, .ref 55), (1, .int a1)], [.int 0], rf_MM w m)) (by decide +kernel) rfl trivial ?_
      obtain rfl := Option.some.inj hg
      exact rf_zret C hE (by decide) (by decide +kernel)
theorem s_X0_solve_14 {w : rf_w} {K : rf_K} {r : Int32 × rf_m} (C : rf_Ctx 0 cX0_solve 4 6 (rf_sh w) K) (hE : rf_End (some .boolean) K (rf_sh w) 0 0 (some (.int r.1)) (rf_MM w r.2)) (n : Nat) : ∀ (a1 : Int32) (m : rf_m), g_X0_solve_14 w n a1 m = some r → rf_V 4 (rf_sh w) K 0 0 14 ([(0, .ref 55), (1, .int a1)], [], rf_MM w m) := by
  induction n with
  | zero => intro a1 m hg; cases hg
  | succ n ih => intro a1 m hg; exact s_X0_solve_14_b C hE ih a1 m hg
theorem c_X0_solve {w : rf_w} {m : rf_m} {r : Int32 × rf_m} (hg : g_X0_solve w m = some r) : rf_Con j_X0_solve 6 (rf_sh w) [.ref 55] (rf_MM w m) (some (.int r.1)) (rf_MM w r.2) := by
  refine rf_con j_X0_solve 6 ⟨by decide +kernel, rfl, Nat.le_of_ble_eq_true rfl⟩ (fun K C hE => ?_)
  unfold g_X0_solve at hg
  show rf_V 4 (rf_sh w) K 0 0 0 ([(0, .ref 55)], [], rf_MM w m)
  refine rf_seg C [(.aload 0, 1)] (pc' := 1) (S' := ([(0, .ref 55)], [.ref 55], rf_MM w m)) (by decide +kernel) rfl trivial ?_
  obtain ⟨m0, hc0, hg⟩ := rf_bv_some hg
  refine rf_callv C rf_fit0 j_X0_fillMatrix (ci := 0) (As := []) (rest := []) mw_X0_fillMatrix (c_X0_fillMatrix hc0) (by decide) rfl (by decide) lk_0_128 rfl rfl (Nat.le_of_ble_eq_true rfl) (by decide +kernel) ?_
  show rf_V 4 (rf_sh w) K 0 0 4 ([(0, .ref 55)], [], rf_MM w m0)
  refine rf_seg C [(.aload 0, 1), (.invokeinterface 0 12, 3), (.goto_w 1, 1)] (pc' := 9) (S' := ([(0, .ref 55)], [.long 1, .ref 65], rf_MM w m0)) (by decide +kernel) rfl trivial ?_
  obtain ⟨m1, hc1, hg⟩ := rf_bv_some hg
  refine rf_callv C rf_fit0 j_X1_setLong (ci := 1) (As := [.long 1]) (rest := []) mw_X1_setLong (c_X1_setLong hc1) (by decide) rfl (by decide) lk_0_131 rfl rfl (Nat.le_of_ble_eq_true rfl) (by decide +kernel) ?_
  show rf_V 4 (rf_sh w) K 0 0 12 ([(0, .ref 55)], [], rf_MM w m1)
  refine rf_seg C [(.iconst 0, 1), (.istore 1, 1)] (pc' := 14) (S' := ([(1, .int 0), (0, .ref 55)], [], rf_MM w m1)) (by decide +kernel) rfl trivial ?_
  refine rf_few [1, 0] rfl ?_
  exact s_X0_solve_14 C hE rf_fuel 0 m1 hg
-- X1_setFloor
abbrev j_X1_setFloor : rf_J := (1, yX1_setFloor, cX1_setFloor, 5, none)
theorem mw_X1_setFloor : rf_mv j_X1_setFloor (rf_R 1) 4 := ⟨⟨rf_mem 69 (by decide +kernel), rf_mem 69 (by decide +kernel), rf_mem 5 (by decide +kernel), rf_mem 70 (by decide +kernel)⟩, by decide +kernel, by decide⟩
def g_X1_setFloor (w : rf_w) (m : rf_m) (a0 : Nat) (a1 : Nat) (a2 : Nat) (a3 : Nat) (a4 : Nat) : Option (rf_m) := rf_g (rf_isO w a0 1) (rf_g (rf_isR w a0 2 (a0 + 1)) (rf_g (rf_isA w (a0 + 1) .long 10) (rf_g (rf_isO w a1 1) (rf_g (rf_isR w a1 2 (a1 + 1)) (rf_g (rf_isA w (a1 + 1) .long 10) (rf_g (rf_isO w a2 1) (rf_g (rf_isR w a2 2 (a2 + 1)) (rf_g (rf_isA w (a2 + 1) .long 10) (rf_g (rf_isO w a3 1) (rf_g (rf_isR w a3 2 (a3 + 1)) (rf_g (rf_isA w (a3 + 1) .long 10) (rf_g (rf_isO w a4 1) (rf_g (rf_isR w a4 2 (a4 + 1)) (rf_g (rf_isA w (a4 + 1) .long 10) (rf_bv (g_X1_setQuotient w m a0 a1 a2 a3 a4) fun m15 => (if (m15.1 a3 0) ≤ 0 then some m15 else (if (m15.1 a1 1) = (m15.1 a2 1) then some m15 else rf_bv (g_X1_setLong w m15 a4 1) fun m16 => rf_bv (g_X1_addSigned w m16 a0 a4 1) fun m17 => some m17)))))))))))))))))
theorem c_X1_setFloor {w : rf_w} {m : rf_m} {a0 : Nat} {a1 : Nat} {a2 : Nat} {a3 : Nat} {a4 : Nat} {r : rf_m} (hg : g_X1_setFloor w m a0 a1 a2 a3 a4 = some r) : rf_Con j_X1_setFloor 5 (rf_sh w) [.ref a0, .ref a1, .ref a2, .ref a3, .ref a4] (rf_MM w m) none (rf_MM w r) := by
  refine rf_con j_X1_setFloor 5 ⟨by decide +kernel, rfl, Nat.le_of_ble_eq_true rfl⟩ (fun K C hE => ?_)
  unfold g_X1_setFloor at hg
  show rf_V 5 (rf_sh w) K 0 0 0 ([(0, .ref a0), (1, .ref a1), (2, .ref a2), (3, .ref a3), (4, .ref a4)], [], rf_MM w m)
  obtain ⟨q0, hg⟩ := rf_g_some hg
  obtain ⟨q1, hg⟩ := rf_g_some hg
  obtain ⟨q2, hg⟩ := rf_g_some hg
  obtain ⟨q3, hg⟩ := rf_g_some hg
  obtain ⟨q4, hg⟩ := rf_g_some hg
  obtain ⟨q5, hg⟩ := rf_g_some hg
  obtain ⟨q6, hg⟩ := rf_g_some hg
  obtain ⟨q7, hg⟩ := rf_g_some hg
  obtain ⟨q8, hg⟩ := rf_g_some hg
  obtain ⟨q9, hg⟩ := rf_g_some hg
  obtain ⟨q10, hg⟩ := rf_g_some hg
  obtain ⟨q11, hg⟩ := rf_g_some hg
  obtain ⟨q12, hg⟩ := rf_g_some hg
  obtain ⟨q13, hg⟩ := rf_g_some hg
  obtain ⟨q14, hg⟩ := rf_g_some hg
  refine rf_seg C [(.aload 0, 1), (.aload 1, 1), (.aload 2, 1), (.aload 3, 1), (.aload 4, 2)] (pc' := 6) (S' := ([(0, .ref a0), (1, .ref a1), (2, .ref a2), (3, .ref a3), (4, .ref a4)], [.ref a4, .ref a3, .ref a2, .ref a1, .ref a0], rf_MM w m)) (by decide +kernel) rfl trivial ?_
  obtain ⟨m15, hc15, hg⟩ := rf_bv_some hg
  refine rf_callv C rf_fit0 j_X1_setQuotient (ci := 1) (As := [.ref a1, .ref a2, .ref a3, .ref a4]) (rest := []) mw_X1_setQuotient (c_X1_setQuotient hc15) (by decide) (rf_isO_of q0) (by decide) lk_1_84 rfl rfl (Nat.le_of_ble_eq_true rfl) (by decide +kernel) ?_
  show rf_V 5 (rf_sh w) K 0 0 9 ([(0, .ref a0), (1, .ref a1), (2, .ref a2), (3, .ref a3), (4, .ref a4)], [], rf_MM w m15)
  refine rf_seg C [(.aload 3, 1)] (pc' := 10) (S' := ([(0, .ref a0), (1, .ref a1), (2, .ref a2), (3, .ref a3), (4, .ref a4)], [.ref a3], rf_MM w m15)) (by decide +kernel) rfl trivial ?_
  refine rf_d_get C 1 0 (rf_isO_of q9) (by decide +kernel) ?_
  show rf_V 5 (rf_sh w) K 0 0 13 ([(0, .ref a0), (1, .ref a1), (2, .ref a2), (3, .ref a3), (4, .ref a4)], [.int (m15.1 a3 0)], rf_MM w m15)
  refine rf_if_le C 27 40 (by decide +kernel) (fun hc => ?_) (fun hc => ?_)
  · replace hg := (if_pos hc).symm.trans hg
    obtain rfl := Option.some.inj hg
    exact rf_vret C hE (by decide +kernel)
  · replace hg := (if_neg hc).symm.trans hg
    refine rf_seg C [(.aload 1, 1)] (pc' := 17) (S' := ([(0, .ref a0), (1, .ref a1), (2, .ref a2), (3, .ref a3), (4, .ref a4)], [.ref a1], rf_MM w m15)) (by decide +kernel) rfl trivial ?_
    refine rf_d_get C 1 1 (rf_isO_of q3) (by decide +kernel) ?_
    show rf_V 5 (rf_sh w) K 0 0 20 ([(0, .ref a0), (1, .ref a1), (2, .ref a2), (3, .ref a3), (4, .ref a4)], [.int (m15.1 a1 1)], rf_MM w m15)
    refine rf_seg C [(.aload 2, 1)] (pc' := 21) (S' := ([(0, .ref a0), (1, .ref a1), (2, .ref a2), (3, .ref a3), (4, .ref a4)], [.ref a2, .int (m15.1 a1 1)], rf_MM w m15)) (by decide +kernel) rfl trivial ?_
    refine rf_d_get C 1 1 (rf_isO_of q6) (by decide +kernel) ?_
    show rf_V 5 (rf_sh w) K 0 0 24 ([(0, .ref a0), (1, .ref a1), (2, .ref a2), (3, .ref a3), (4, .ref a4)], [.int (m15.1 a2 1), .int (m15.1 a1 1)], rf_MM w m15)
    refine rf_icmp_eq C 16 40 (by decide +kernel) (fun hc => ?_) (fun hc => ?_)
    · replace hg := (if_pos hc).symm.trans hg
      obtain rfl := Option.some.inj hg
      exact rf_vret C hE (by decide +kernel)
    · replace hg := (if_neg hc).symm.trans hg
      refine rf_seg C [(.aload 4, 2), (.goto_w 1, 1)] (pc' := 30) (S' := ([(0, .ref a0), (1, .ref a1), (2, .ref a2), (3, .ref a3), (4, .ref a4)], [.long 1, .ref a4], rf_MM w m15)) (by decide +kernel) rfl trivial ?_
      obtain ⟨m16, hc16, hg⟩ := rf_bv_some hg
      refine rf_callv C rf_fit0 j_X1_setLong (ci := 1) (As := [.long 1]) (rest := []) mw_X1_setLong (c_X1_setLong hc16) (by decide) (rf_isO_of q12) (by decide) lk_1_88 rfl rfl (Nat.le_of_ble_eq_true rfl) (by decide +kernel) ?_
      show rf_V 5 (rf_sh w) K 0 0 33 ([(0, .ref a0), (1, .ref a1), (2, .ref a2), (3, .ref a3), (4, .ref a4)], [], rf_MM w m16)
      refine rf_seg C [(.aload 0, 1), (.aload 4, 2), (.iconst 1, 1)] (pc' := 37) (S' := ([(0, .ref a0), (1, .ref a1), (2, .ref a2), (3, .ref a3), (4, .ref a4)], [.int 1, .ref a4, .ref a0], rf_MM w m16)) (by decide +kernel) rfl trivial ?_
      obtain ⟨m17, hc17, hg⟩ := rf_bv_some hg
      refine rf_callv C rf_fit0 j_X1_addSigned (ci := 1) (As := [.ref a4, .int 1]) (rest := []) mw_X1_addSigned (c_X1_addSigned hc17) (by decide) (rf_isO_of q0) (by decide) lk_1_92 rfl rfl (Nat.le_of_ble_eq_true rfl) (by decide +kernel) ?_
      show rf_V 5 (rf_sh w) K 0 0 40 ([(0, .ref a0), (1, .ref a1), (2, .ref a2), (3, .ref a3), (4, .ref a4)], [], rf_MM w m17)
      obtain rfl := Option.some.inj hg
      exact rf_vret C hE (by decide +kernel)
-- X1_isLong
abbrev j_X1_isLong : rf_J := (1, yX1_isLong, cX1_isLong, 1, (some .boolean))
theorem mw_X1_isLong : rf_mv j_X1_isLong (rf_R 1) 0 := ⟨⟨rf_mem 70 (by decide +kernel), rf_mem 70 (by decide +kernel), rf_mem 5 (by decide +kernel), rf_mem 70 (by decide +kernel)⟩, by decide +kernel, by decide⟩
def g_X1_isLong (w : rf_w) (m : rf_m) (a0 : Nat) : Option (Int32 × rf_m) := rf_g (rf_isO w a0 1) (rf_g (rf_isR w a0 2 (a0 + 1)) (rf_g (rf_isA w (a0 + 1) .long 10) ((if (m.1 a0 0) < 3 then some (1, m) else (if (m.1 a0 0) = 3 then (if (0 : Int32) ≤ (lg_cmp (m.2 (a0 + 1) (Int32.toNatClampNeg 2)) 8) then some (0, m) else some (1, m)) else some (0, m))))))
theorem c_X1_isLong {w : rf_w} {m : rf_m} {a0 : Nat} {r : Int32 × rf_m} (hg : g_X1_isLong w m a0 = some r) : rf_Con j_X1_isLong 1 (rf_sh w) [.ref a0] (rf_MM w m) (some (.int r.1)) (rf_MM w r.2) := by
  refine rf_con j_X1_isLong 1 ⟨by decide +kernel, rfl, Nat.le_of_ble_eq_true rfl⟩ (fun K C hE => ?_)
  unfold g_X1_isLong at hg
  show rf_V 1 (rf_sh w) K 0 0 0 ([(0, .ref a0)], [], rf_MM w m)
  obtain ⟨q0, hg⟩ := rf_g_some hg
  obtain ⟨q1, hg⟩ := rf_g_some hg
  obtain ⟨q2, hg⟩ := rf_g_some hg
  refine rf_seg C [(.aload 0, 1)] (pc' := 1) (S' := ([(0, .ref a0)], [.ref a0], rf_MM w m)) (by decide +kernel) rfl trivial ?_
  refine rf_d_get C 1 0 (rf_isO_of q0) (by decide +kernel) ?_
  show rf_V 1 (rf_sh w) K 0 0 4 ([(0, .ref a0)], [.int (m.1 a0 0)], rf_MM w m)
  refine rf_seg C [(.iconst 3, 1)] (pc' := 5) (S' := ([(0, .ref a0)], [.int 3, .int (m.1 a0 0)], rf_MM w m)) (by decide +kernel) rfl trivial ?_
  refine rf_icmp_lt C 24 29 (by decide +kernel) (fun hc => ?_) (fun hc => ?_)
  · replace hg := (if_pos hc).symm.trans hg
    refine rf_seg C [(.iconst 1, 1)] (pc' := 30) (S' := ([(0, .ref a0)], [.int 1], rf_MM w m)) (by decide +kernel) rfl trivial ?_
    refine rf_goto C 4 34 (by decide +kernel) ?_
    obtain rfl := Option.some.inj hg
    exact rf_zret C hE (by decide) (by decide +kernel)
  · replace hg := (if_neg hc).symm.trans hg
    refine rf_seg C [(.aload 0, 1)] (pc' := 9) (S' := ([(0, .ref a0)], [.ref a0], rf_MM w m)) (by decide +kernel) rfl trivial ?_
    refine rf_d_get C 1 0 (rf_isO_of q0) (by decide +kernel) ?_
    show rf_V 1 (rf_sh w) K 0 0 12 ([(0, .ref a0)], [.int (m.1 a0 0)], rf_MM w m)
    refine rf_seg C [(.iconst 3, 1)] (pc' := 13) (S' := ([(0, .ref a0)], [.int 3, .int (m.1 a0 0)], rf_MM w m)) (by decide +kernel) rfl trivial ?_
    refine rf_icmp_ne C 20 33 (by decide +kernel) (fun hc => ?_) (fun hc => ?_)
    · replace hg := (if_neg hc).symm.trans hg
      refine rf_seg C [(.iconst 0, 1)] (pc' := 34) (S' := ([(0, .ref a0)], [.int 0], rf_MM w m)) (by decide +kernel) rfl trivial ?_
      obtain rfl := Option.some.inj hg
      exact rf_zret C hE (by decide) (by decide +kernel)
    · replace hg := (if_pos hc).symm.trans hg
      refine rf_seg C [(.aload 0, 1)] (pc' := 17) (S' := ([(0, .ref a0)], [.ref a0], rf_MM w m)) (by decide +kernel) rfl trivial ?_
      refine rf_d_getr C 1 2 (rf_isO_of q0) rfl (rf_isR_of q1) (by decide +kernel) ?_
      show rf_V 1 (rf_sh w) K 0 0 20 ([(0, .ref a0)], [.ref (a0 + 1)], rf_MM w m)
      refine rf_seg C [(.iconst 2, 1)] (pc' := 21) (S' := ([(0, .ref a0)], [.int 2, .ref (a0 + 1)], rf_MM w m)) (by decide +kernel) rfl trivial ?_
      refine rf_d_laload C (rf_isA_of q2) (rf_in_of (by decide)) (by decide +kernel) ?_
      show rf_V 1 (rf_sh w) K 0 0 22 ([(0, .ref a0)], [.long (m.2 (a0 + 1) (Int32.toNatClampNeg 2))], rf_MM w m)
      refine rf_seg C [(.goto_w 8, 3), (.lcmp, 1)] (pc' := 26) (S' := ([(0, .ref a0)], [.int (lg_cmp (m.2 (a0 + 1) (Int32.toNatClampNeg 2)) 8)], rf_MM w m)) (by decide +kernel) rfl trivial ?_
      refine rf_if_ge C 7 33 (by decide +kernel) (fun hc => ?_) (fun hc => ?_)
      · replace hg := (if_pos hc).symm.trans hg
        refine rf_seg C [(.iconst 0, 1)] (pc' := 34) (S' := ([(0, .ref a0)], [.int 0], rf_MM w m)) (by decide +kernel) rfl trivial ?_
        obtain rfl := Option.some.inj hg
        exact rf_zret C hE (by decide) (by decide +kernel)
      · replace hg := (if_neg hc).symm.trans hg
        refine rf_seg C [(.iconst 1, 1)] (pc' := 30) (S' := ([(0, .ref a0)], [.int 1], rf_MM w m)) (by decide +kernel) rfl trivial ?_
        refine rf_goto C 4 34 (by decide +kernel) ?_
        obtain rfl := Option.some.inj hg
        exact rf_zret C hE (by decide) (by decide +kernel)
-- X1_toLong
abbrev j_X1_toLong : rf_J := (1, yX1_toLong, cX1_toLong, 4, (some .long))
theorem mw_X1_toLong : rf_mv j_X1_toLong (rf_R 1) 0 := ⟨⟨rf_mem 70 (by decide +kernel), rf_mem 70 (by decide +kernel), rf_mem 5 (by decide +kernel), rf_mem 70 (by decide +kernel)⟩, by decide +kernel, by decide⟩
def g_X1_toLong_9_b (w : rf_w) (rec9 : Nat → Int64 → Int32 → rf_m → Option (Int64 × rf_m)) (a0 : Nat) (a1 : Int64) (a3 : Int32) (m : rf_m) : Option (Int64 × rf_m) := rf_g (rf_isO w a0 1) (rf_g (rf_isR w a0 2 (a0 + 1)) (rf_g (rf_isA w (a0 + 1) .long 10) ((if a3 < 0 then (if (m.1 a0 1) = 0 then some (a1, m) else some (-a1, m)) else rf_g (rf_in a3 10) (rf_vl ((a1 <<< (Int32.toInt64 30 &&& 63)) ||| (m.2 (a0 + 1) (Int32.toNatClampNeg a3))) fun x4 => rec9 a0 x4 (a3 + (-1)) m)))))
def g_X1_toLong_9 (w : rf_w) : Nat → Nat → Int64 → Int32 → rf_m → Option (Int64 × rf_m)
  | 0, _, _, _, _ => none
  | n + 1, a0, a1, a3, m => g_X1_toLong_9_b w (g_X1_toLong_9 w n) a0 a1 a3 m
def g_X1_toLong (w : rf_w) (m : rf_m) (a0 : Nat) : Option (Int64 × rf_m) := rf_g (rf_isO w a0 1) (rf_g (rf_isR w a0 2 (a0 + 1)) (rf_g (rf_isA w (a0 + 1) .long 10) (g_X1_toLong_9 w rf_fuel a0 0 ((m.1 a0 0) - 1) m)))
theorem s_X1_toLong_9_b {w : rf_w} {K : rf_K} {r : Int64 × rf_m} (C : rf_Ctx 1 cX1_toLong 4 1 (rf_sh w) K) (hE : rf_End (some .long) K (rf_sh w) 0 0 (some (.long r.1)) (rf_MM w r.2)) {rec9 : Nat → Int64 → Int32 → rf_m → Option (Int64 × rf_m)} (hr9 : ∀ (a0 : Nat) (a1 : Int64) (a3 : Int32) (m : rf_m), rec9 a0 a1 a3 m = some r → rf_V 4 (rf_sh w) K 0 0 9 ([(0, .ref a0), (1, .long a1), (3, .int a3)], [], rf_MM w m)) (a0 : Nat) (a1 : Int64) (a3 : Int32) (m : rf_m) (hg : g_X1_toLong_9_b w rec9 a0 a1 a3 m = some r) : rf_V 4 (rf_sh w) K 0 0 9 ([(0, .ref a0), (1, .long a1), (3, .int a3)], [], rf_MM w m) := by
  unfold g_X1_toLong_9_b at hg
  obtain ⟨q0, hg⟩ := rf_g_some hg
  obtain ⟨q1, hg⟩ := rf_g_some hg
  obtain ⟨q2, hg⟩ := rf_g_some hg
  refine rf_seg C [(.iload 3, 1)] (pc' := 10) (S' := ([(0, .ref a0), (1, .long a1), (3, .int a3)], [.int a3], rf_MM w m)) (by decide +kernel) rfl trivial ?_
  refine rf_if_lt C 21 31 (by decide +kernel) (fun hc => ?_) (fun hc => ?_)
  · replace hg := (if_pos hc).symm.trans hg
    refine rf_seg C [(.aload 0, 1)] (pc' := 32) (S' := ([(0, .ref a0), (1, .long a1), (3, .int a3)], [.ref a0], rf_MM w m)) (by decide +kernel) rfl trivial ?_
    refine rf_d_get C 1 1 (rf_isO_of q0) (by decide +kernel) ?_
    show rf_V 4 (rf_sh w) K 0 0 35 ([(0, .ref a0), (1, .long a1), (3, .int a3)], [.int (m.1 a0 1)], rf_MM w m)
    refine rf_if_eq C 8 43 (by decide +kernel) (fun hc => ?_) (fun hc => ?_)
    · replace hg := (if_pos hc).symm.trans hg
      refine rf_seg C [(.lload 1, 1)] (pc' := 44) (S' := ([(0, .ref a0), (1, .long a1), (3, .int a3)], [.long a1], rf_MM w m)) (by decide +kernel) rfl trivial ?_
      obtain rfl := Option.some.inj hg
      exact rf_lret C hE (by decide +kernel)
    · replace hg := (if_neg hc).symm.trans hg
      refine rf_seg C [(.lload 1, 1), (.lneg, 1)] (pc' := 40) (S' := ([(0, .ref a0), (1, .long a1), (3, .int a3)], [.long (-a1)], rf_MM w m)) (by decide +kernel) rfl trivial ?_
      refine rf_goto C 4 44 (by decide +kernel) ?_
      obtain rfl := Option.some.inj hg
      exact rf_lret C hE (by decide +kernel)
  · replace hg := (if_neg hc).symm.trans hg
    refine rf_seg C [(.lload 1, 1), (.iconst 30, 2), (.lshl, 1), (.aload 0, 1)] (pc' := 18) (S' := ([(0, .ref a0), (1, .long a1), (3, .int a3)], [.ref a0, .long (a1 <<< (Int32.toInt64 30 &&& 63))], rf_MM w m)) (by decide +kernel) rfl trivial ?_
    refine rf_d_getr C 1 2 (rf_isO_of q0) rfl (rf_isR_of q1) (by decide +kernel) ?_
    show rf_V 4 (rf_sh w) K 0 0 21 ([(0, .ref a0), (1, .long a1), (3, .int a3)], [.ref (a0 + 1), .long (a1 <<< (Int32.toInt64 30 &&& 63))], rf_MM w m)
    refine rf_seg C [(.iload 3, 1)] (pc' := 22) (S' := ([(0, .ref a0), (1, .long a1), (3, .int a3)], [.int a3, .ref (a0 + 1), .long (a1 <<< (Int32.toInt64 30 &&& 63))], rf_MM w m)) (by decide +kernel) rfl trivial ?_
    obtain ⟨q3, hg⟩ := rf_g_some hg
    refine rf_d_laload C (rf_isA_of q2) (rf_in_of q3) (by decide +kernel) ?_
    show rf_V 4 (rf_sh w) K 0 0 23 ([(0, .ref a0), (1, .long a1), (3, .int a3)], [.long (m.2 (a0 + 1) (Int32.toNatClampNeg a3)), .long (a1 <<< (Int32.toInt64 30 &&& 63))], rf_MM w m)
    refine rf_seg C [(.lor, 1)] (pc' := 24) (S' := ([(0, .ref a0), (1, .long a1), (3, .int a3)], [.long ((a1 <<< (Int32.toInt64 30 &&& 63)) ||| (m.2 (a0 + 1) (Int32.toNatClampNeg a3)))], rf_MM w m)) (by decide +kernel) rfl trivial ?_
    obtain ⟨x4, hx4, hg⟩ := rf_vl_some hg
    refine rf_vl_top hx4 ?_
    refine rf_seg C [(.lstore 1, 1), (.iinc 3 (-1), 3)] (pc' := 28) (S' := ([(3, .int (a3 + (-1))), (1, .long x4), (0, .ref a0)], [], rf_MM w m)) (by decide +kernel) rfl trivial ?_
    refine rf_goto C (-19) 9 (by decide +kernel) ?_
    refine rf_few [2, 1, 0] rfl ?_
    exact hr9 a0 x4 (a3 + (-1)) m hg
theorem s_X1_toLong_9 {w : rf_w} {K : rf_K} {r : Int64 × rf_m} (C : rf_Ctx 1 cX1_toLong 4 1 (rf_sh w) K) (hE : rf_End (some .long) K (rf_sh w) 0 0 (some (.long r.1)) (rf_MM w r.2)) (n : Nat) : ∀ (a0 : Nat) (a1 : Int64) (a3 : Int32) (m : rf_m), g_X1_toLong_9 w n a0 a1 a3 m = some r → rf_V 4 (rf_sh w) K 0 0 9 ([(0, .ref a0), (1, .long a1), (3, .int a3)], [], rf_MM w m) := by
  induction n with
  | zero => intro a0 a1 a3 m hg; cases hg
  | succ n ih => intro a0 a1 a3 m hg; exact s_X1_toLong_9_b C hE ih a0 a1 a3 m hg
theorem c_X1_toLong {w : rf_w} {m : rf_m} {a0 : Nat} {r : Int64 × rf_m} (hg : g_X1_toLong w m a0 = some r) : rf_Con j_X1_toLong 1 (rf_sh w) [.ref a0] (rf_MM w m) (some (.long r.1)) (rf_MM w r.2) := by
  refine rf_con j_X1_toLong 1 ⟨by decide +kernel, rfl, Nat.le_of_ble_eq_true rfl⟩ (fun K C hE => ?_)
  unfold g_X1_toLong at hg
  show rf_V 4 (rf_sh w) K 0 0 0 ([(0, .ref a0)], [], rf_MM w m)
  obtain ⟨q0, hg⟩ := rf_g_some hg
  obtain ⟨q1, hg⟩ := rf_g_some hg
  obtain ⟨q2, hg⟩ := rf_g_some hg
  refine rf_seg C [(.goto_w 0, 1), (.lstore 1, 1), (.aload 0, 1)] (pc' := 3) (S' := ([(1, .long 0), (0, .ref a0)], [.ref a0], rf_MM w m)) (by decide +kernel) rfl trivial ?_
  refine rf_d_get C 1 0 (rf_isO_of q0) (by decide +kernel) ?_
  show rf_V 4 (rf_sh w) K 0 0 6 ([(1, .long 0), (0, .ref a0)], [.int (m.1 a0 0)], rf_MM w m)
  refine rf_seg C [(.iconst 1, 1), (.isub, 1), (.istore 3, 1)] (pc' := 9) (S' := ([(3, .int ((m.1 a0 0) - 1)), (1, .long 0), (0, .ref a0)], [], rf_MM w m)) (by decide +kernel) rfl trivial ?_
  refine rf_few [2, 1, 0] rfl ?_
  exact s_X1_toLong_9 C hE rf_fuel a0 0 ((m.1 a0 0) - 1) m hg
-- X0_keep
abbrev j_X0_keep : rf_J := (0, yX0_keep, cX0_keep, 3, (some .int))
theorem mw_X0_keep : rf_mv j_X0_keep (rf_R 0) 0 := ⟨⟨rf_mem 69 (by decide +kernel), rf_mem 69 (by decide +kernel), rf_mem 1 (by decide +kernel), rf_mem 69 (by decide +kernel)⟩, by decide +kernel, by decide⟩
def g_X0_keep_62_b (w : rf_w) (rec62 : Int32 → Int32 → rf_m → Option (Int32 × rf_m)) (a1 : Int32) (a2 : Int32) (m : rf_m) : Option (Int32 × rf_m) := (if (m.1 55 8) ≤ a2 then rf_bv (g_X1_setLong w m 69 2520000) fun m0 => rf_bv (g_X1_setProduct w m0 71 67 69) fun m1 => rf_bv (g_X1_setFloor w m1 67 71 65 75 77) fun m2 => rf_b (g_X1_isLong w m2 67) fun y3 m3 => (if y3 = 0 then rf_bv (g_X1_copyFrom w (rf_l m3 55 0 ((-9223372036854775808))) 63 65) fun m4 => some (a1, m4) else rf_b (g_X1_toLong w m3 67) fun y5 m5 => rf_bv (g_X1_copyFrom w (rf_l m5 55 0 y5) 63 65) fun m6 => some (a1, m6)) else rf_g (rf_in a2 6) (rf_o (rf_Rt w 62 (Int32.toNatClampNeg a2)) fun k8 => rf_g (rf_isO w k8 1) (rf_g (rf_isR w k8 2 (k8 + 1)) (rf_g (rf_isA w (k8 + 1) .long 10) (rf_g (rf_in ((a2 * 7) + 6) 42) (rf_o (rf_Rt w 61 (Int32.toNatClampNeg ((a2 * 7) + 6))) fun k13 => rf_g (rf_isO w k13 1) (rf_g (rf_isR w k13 2 (k13 + 1)) (rf_g (rf_isA w (k13 + 1) .long 10) (rf_bv (g_X1_copyFrom w m k8 k13) fun m17 => rf_g (rf_in a2 6) (rf_bv (g_X1_setLong w m17 69 (Int32.toInt64 (-(m17.1 60 (Int32.toNatClampNeg a2))))) fun m19 => rf_g (rf_in a2 6) (rf_o (rf_Rt w 62 (Int32.toNatClampNeg a2)) fun k21 => rf_g (rf_isO w k21 1) (rf_g (rf_isR w k21 2 (k21 + 1)) (rf_g (rf_isA w (k21 + 1) .long 10) (rf_bv (g_X1_setProduct w m19 71 69 k21) fun m25 => rf_bv (g_X1_addSigned w m25 67 71 0) fun m26 => rec62 a1 (a2 + 1) m26))))))))))))))
def g_X0_keep_62 (w : rf_w) : Nat → Int32 → Int32 → rf_m → Option (Int32 × rf_m)
  | 0, _, _, _ => none
  | n + 1, a1, a2, m => g_X0_keep_62_b w (g_X0_keep_62 w n) a1 a2 m
def g_X0_keep_46 (w : rf_w) (rec4 : Int32 → Int32 → rf_m → Option (Int32 × rf_m)) (a1 : Int32) (a2 : Int32) (m : rf_m) : Option (Int32 × rf_m) := rec4 a1 (a2 + 1) m
def g_X0_keep_4_b (w : rf_w) (rec4 : Int32 → Int32 → rf_m → Option (Int32 × rf_m)) (a1 : Int32) (a2 : Int32) (m : rf_m) : Option (Int32 × rf_m) := (if 80 ≤ a2 then rf_bv (g_X1_setLong w m 67 0) fun m0 => g_X0_keep_62 w rf_fuel a1 0 m0 else rf_g (rf_in a2 80) (rf_g (rf_in a2 80) (rf_g (rf_in a2 80) (rf_g (rf_in a2 80) (rf_g (rf_in a2 80) ((if ((rf_i (rf_i m 58 (Int32.toNatClampNeg a2) (m.1 56 (Int32.toNatClampNeg a2))) 59 (Int32.toNatClampNeg a2) ((rf_i m 58 (Int32.toNatClampNeg a2) (m.1 56 (Int32.toNatClampNeg a2))).1 57 (Int32.toNatClampNeg a2))).1 56 (Int32.toNatClampNeg a2)) = 0 then g_X0_keep_46 w rec4 a1 a2 (rf_i (rf_i m 58 (Int32.toNatClampNeg a2) (m.1 56 (Int32.toNatClampNeg a2))) 59 (Int32.toNatClampNeg a2) ((rf_i m 58 (Int32.toNatClampNeg a2) (m.1 56 (Int32.toNatClampNeg a2))).1 57 (Int32.toNatClampNeg a2))) else g_X0_keep_46 w rec4 (a1 + 1) a2 (rf_i (rf_i m 58 (Int32.toNatClampNeg a2) (m.1 56 (Int32.toNatClampNeg a2))) 59 (Int32.toNatClampNeg a2) ((rf_i m 58 (Int32.toNatClampNeg a2) (m.1 56 (Int32.toNatClampNeg a2))).1 57 (Int32.toNatClampNeg a2))))))))))
def g_X0_keep_4 (w : rf_w) : Nat → Int32 → Int32 → rf_m → Option (Int32 × rf_m)
  | 0, _, _, _ => none
  | n + 1, a1, a2, m => g_X0_keep_4_b w (g_X0_keep_4 w n) a1 a2 m
def g_X0_keep (w : rf_w) (m : rf_m) : Option (Int32 × rf_m) := g_X0_keep_4 w rf_fuel 0 0 m
theorem s_X0_keep_62_b {w : rf_w} {K : rf_K} {r : Int32 × rf_m} (C : rf_Ctx 0 cX0_keep 3 6 (rf_sh w) K) (hE : rf_End (some .int) K (rf_sh w) 0 0 (some (.int r.1)) (rf_MM w r.2)) {rec62 : Int32 → Int32 → rf_m → Option (Int32 × rf_m)} (hr62 : ∀ (a1 : Int32) (a2 : Int32) (m : rf_m), rec62 a1 a2 m = some r → rf_V 3 (rf_sh w) K 0 0 62 ([(0, .ref 55), (1, .int a1), (2, .int a2)], [], rf_MM w m)) (a1 : Int32) (a2 : Int32) (m : rf_m) (hg : g_X0_keep_62_b w rec62 a1 a2 m = some r) : rf_V 3 (rf_sh w) K 0 0 62 ([(0, .ref 55), (1, .int a1), (2, .int a2)], [], rf_MM w m) := by
  unfold g_X0_keep_62_b at hg
  refine rf_seg C [(.iload 2, 1), (.aload 0, 1), (.invokeinterface 0 8, 3)] (pc' := 67) (S' := ([(0, .ref 55), (1, .int a1), (2, .int a2)], [.int (m.1 55 8), .int a2], rf_MM w m)) (by decide +kernel) rfl trivial ?_
  refine rf_icmp_ge C 74 141 (by decide +kernel) (fun hc => ?_) (fun hc => ?_)
  · replace hg := (if_pos hc).symm.trans hg
    refine rf_seg C [(.aload 0, 1), (.invokeinterface 0 14, 3), (.goto_w 2520000, 3)] (pc' := 148) (S' := ([(0, .ref 55), (1, .int a1), (2, .int a2)], [.long 2520000, .ref 69], rf_MM w m)) (by decide +kernel) rfl trivial ?_
    obtain ⟨m0, hc0, hg⟩ := rf_bv_some hg
    refine rf_callv C rf_fit0 j_X1_setLong (ci := 1) (As := [.long 2520000]) (rest := []) mw_X1_setLong (c_X1_setLong hc0) (by decide) rfl (by decide) lk_0_131 rfl rfl (Nat.le_of_ble_eq_true rfl) (by decide +kernel) ?_
    show rf_V 3 (rf_sh w) K 0 0 151 ([(0, .ref 55), (1, .int a1), (2, .int a2)], [], rf_MM w m0)
    refine rf_seg C [(.aload 0, 1), (.invokeinterface 0 15, 3), (.aload 0, 1), (.invokeinterface 0 13, 3), (.aload 0, 1), (.invokeinterface 0 14, 3)] (pc' := 163) (S' := ([(0, .ref 55), (1, .int a1), (2, .int a2)], [.ref 69, .ref 67, .ref 71], rf_MM w m0)) (by decide +kernel) rfl trivial ?_
    obtain ⟨m1, hc1, hg⟩ := rf_bv_some hg
    refine rf_callv C rf_fit0 j_X1_setProduct (ci := 1) (As := [.ref 67, .ref 69]) (rest := []) mw_X1_setProduct (c_X1_setProduct hc1) (by decide) rfl (by decide) lk_0_146 rfl rfl (Nat.le_of_ble_eq_true rfl) (by decide +kernel) ?_
    show rf_V 3 (rf_sh w) K 0 0 166 ([(0, .ref 55), (1, .int a1), (2, .int a2)], [], rf_MM w m1)
    refine rf_seg C [(.aload 0, 1), (.invokeinterface 0 13, 3), (.aload 0, 1), (.invokeinterface 0 15, 3), (.aload 0, 1), (.invokeinterface 0 12, 3), (.aload 0, 1), (.invokeinterface 0 17, 3), (.aload 0, 1), (.invokeinterface 0 18, 3)] (pc' := 186) (S' := ([(0, .ref 55), (1, .int a1), (2, .int a2)], [.ref 77, .ref 75, .ref 65, .ref 71, .ref 67], rf_MM w m1)) (by decide +kernel) rfl trivial ?_
    obtain ⟨m2, hc2, hg⟩ := rf_bv_some hg
    refine rf_callv C rf_fit0 j_X1_setFloor (ci := 1) (As := [.ref 71, .ref 65, .ref 75, .ref 77]) (rest := []) mw_X1_setFloor (c_X1_setFloor hc2) (by decide) rfl (by decide) lk_0_160 rfl rfl (Nat.le_of_ble_eq_true rfl) (by decide +kernel) ?_
    show rf_V 3 (rf_sh w) K 0 0 189 ([(0, .ref 55), (1, .int a1), (2, .int a2)], [], rf_MM w m2)
    refine rf_seg C [(.aload 0, 1), (.aload 0, 1), (.invokeinterface 0 13, 3)] (pc' := 194) (S' := ([(0, .ref 55), (1, .int a1), (2, .int a2)], [.ref 67, .ref 55], rf_MM w m2)) (by decide +kernel) rfl trivial ?_
    obtain ⟨y3, m3, hc3, hg⟩ := rf_b_some hg
    refine rf_callv C rf_fit0 j_X1_isLong (ci := 1) (As := []) (rest := [.ref 55]) mw_X1_isLong (c_X1_isLong hc3) (by decide) rfl (by decide) lk_0_163 rfl rfl (Nat.le_of_ble_eq_true rfl) (by decide +kernel) ?_
    show rf_V 3 (rf_sh w) K 0 0 197 ([(0, .ref 55), (1, .int a1), (2, .int a2)], [.int y3, .ref 55], rf_MM w m3)
    refine rf_if_eq C 13 210 (by decide +kernel) (fun hc => ?_) (fun hc => ?_)
    · replace hg := (if_pos hc).symm.trans hg
      refine rf_seg C [(.goto_w (-9223372036854775808), 3), (.multianewarray 0 0, 3), (.aload 0, 1), (.invokeinterface 0 11, 3), (.aload 0, 1), (.invokeinterface 0 12, 3)] (pc' := 224) (S' := ([(0, .ref 55), (1, .int a1), (2, .int a2)], [.ref 65, .ref 63], rf_MM w (rf_l m3 55 0 ((-9223372036854775808))))) (by decide +kernel) rfl trivial ?_
      obtain ⟨m4, hc4, hg⟩ := rf_bv_some hg
      refine rf_callv C rf_fit0 j_X1_copyFrom (ci := 1) (As := [.ref 65]) (rest := []) mw_X1_copyFrom (c_X1_copyFrom hc4) (by decide) rfl (by decide) lk_0_142 rfl rfl (Nat.le_of_ble_eq_true rfl) (by decide +kernel) ?_
      show rf_V 3 (rf_sh w) K 0 0 227 ([(0, .ref 55), (1, .int a1), (2, .int a2)], [], rf_MM w m4)
      refine rf_seg C [(.iload 1, 1)] (pc' := 228) (S' := ([(0, .ref 55), (1, .int a1), (2, .int a2)], [.int a1], rf_MM w m4)) (by decide +kernel) rfl trivial ?_
      obtain rfl := Option.some.inj hg
      exact rf_iret C hE (by decide +kernel)
    · replace hg := (if_neg hc).symm.trans hg
      refine rf_seg C [(.aload 0, 1), (.invokeinterface 0 13, 3)] (pc' := 204) (S' := ([(0, .ref 55), (1, .int a1), (2, .int a2)], [.ref 67, .ref 55], rf_MM w m3)) (by decide +kernel) rfl trivial ?_
      obtain ⟨y5, m5, hc5, hg⟩ := rf_b_some hg
      refine rf_callv C rf_fit0 j_X1_toLong (ci := 1) (As := []) (rest := [.ref 55]) mw_X1_toLong (c_X1_toLong hc5) (by decide) rfl (by decide) lk_0_167 rfl rfl (Nat.le_of_ble_eq_true rfl) (by decide +kernel) ?_
      show rf_V 3 (rf_sh w) K 0 0 207 ([(0, .ref 55), (1, .int a1), (2, .int a2)], [.long y5, .ref 55], rf_MM w m5)
      refine rf_goto C 6 213 (by decide +kernel) ?_
      refine rf_seg C [(.multianewarray 0 0, 3), (.aload 0, 1), (.invokeinterface 0 11, 3), (.aload 0, 1), (.invokeinterface 0 12, 3)] (pc' := 224) (S' := ([(0, .ref 55), (1, .int a1), (2, .int a2)], [.ref 65, .ref 63], rf_MM w (rf_l m5 55 0 y5))) (by decide +kernel) rfl trivial ?_
      obtain ⟨m6, hc6, hg⟩ := rf_bv_some hg
      refine rf_callv C rf_fit0 j_X1_copyFrom (ci := 1) (As := [.ref 65]) (rest := []) mw_X1_copyFrom (c_X1_copyFrom hc6) (by decide) rfl (by decide) lk_0_142 rfl rfl (Nat.le_of_ble_eq_true rfl) (by decide +kernel) ?_
      show rf_V 3 (rf_sh w) K 0 0 227 ([(0, .ref 55), (1, .int a1), (2, .int a2)], [], rf_MM w m6)
      refine rf_seg C [(.iload 1, 1)] (pc' := 228) (S' := ([(0, .ref 55), (1, .int a1), (2, .int a2)], [.int a1], rf_MM w m6)) (by decide +kernel) rfl trivial ?_
      obtain rfl := Option.some.inj hg
      exact rf_iret C hE (by decide +kernel)
  · replace hg := (if_neg hc).symm.trans hg
    refine rf_seg C [(.aload 0, 1), (.invokeinterface 0 10, 3), (.iload 2, 1)] (pc' := 75) (S' := ([(0, .ref 55), (1, .int a1), (2, .int a2)], [.int a2, .ref 62], rf_MM w m)) (by decide +kernel) rfl trivial ?_
    obtain ⟨q7, hg⟩ := rf_g_some hg
    obtain ⟨k8, hk8, hg⟩ := rf_o_some hg
    refine rf_d_aaload C (n := 6) (q := k8) rfl (rf_in_of q7) hk8 (by decide +kernel) ?_
    obtain ⟨q9, hg⟩ := rf_g_some hg
    obtain ⟨q10, hg⟩ := rf_g_some hg
    obtain ⟨q11, hg⟩ := rf_g_some hg
    show rf_V 3 (rf_sh w) K 0 0 76 ([(0, .ref 55), (1, .int a1), (2, .int a2)], [.ref k8], rf_MM w m)
    refine rf_seg C [(.aload 0, 1), (.invokeinterface 0 9, 3), (.iload 2, 1), (.iconst 7, 2), (.imul, 1), (.iconst 6, 2), (.iadd, 1)] (pc' := 87) (S' := ([(0, .ref 55), (1, .int a1), (2, .int a2)], [.int ((a2 * 7) + 6), .ref 61, .ref k8], rf_MM w m)) (by decide +kernel) rfl trivial ?_
    obtain ⟨q12, hg⟩ := rf_g_some hg
    obtain ⟨k13, hk13, hg⟩ := rf_o_some hg
    refine rf_d_aaload C (n := 42) (q := k13) rfl (rf_in_of q12) hk13 (by decide +kernel) ?_
    obtain ⟨q14, hg⟩ := rf_g_some hg
    obtain ⟨q15, hg⟩ := rf_g_some hg
    obtain ⟨q16, hg⟩ := rf_g_some hg
    show rf_V 3 (rf_sh w) K 0 0 88 ([(0, .ref 55), (1, .int a1), (2, .int a2)], [.ref k13, .ref k8], rf_MM w m)
    obtain ⟨m17, hc17, hg⟩ := rf_bv_some hg
    refine rf_callv C rf_fit0 j_X1_copyFrom (ci := 1) (As := [.ref k13]) (rest := []) mw_X1_copyFrom (c_X1_copyFrom hc17) (by decide) (rf_isO_of q9) (by decide) lk_0_142 rfl rfl (Nat.le_of_ble_eq_true rfl) (by decide +kernel) ?_
    show rf_V 3 (rf_sh w) K 0 0 91 ([(0, .ref 55), (1, .int a1), (2, .int a2)], [], rf_MM w m17)
    obtain ⟨q18, hg⟩ := rf_g_some hg
    refine rf_seg C [(.aload 0, 1), (.invokeinterface 0 14, 3), (.aload 0, 1), (.invokeinterface 0 7, 3), (.iload 2, 1), (.iaload, 1), (.ineg, 1), (.i2l, 1)] (pc' := 103) (S' := ([(0, .ref 55), (1, .int a1), (2, .int a2)], [.long (Int32.toInt64 (-(m17.1 60 (Int32.toNatClampNeg a2)))), .ref 69], rf_MM w m17)) (by decide +kernel) rfl (rf_in_of q18) ?_
    obtain ⟨m19, hc19, hg⟩ := rf_bv_some hg
    refine rf_callv C rf_fit0 j_X1_setLong (ci := 1) (As := [.long (Int32.toInt64 (-(m17.1 60 (Int32.toNatClampNeg a2))))]) (rest := []) mw_X1_setLong (c_X1_setLong hc19) (by decide) rfl (by decide) lk_0_131 rfl rfl (Nat.le_of_ble_eq_true rfl) (by decide +kernel) ?_
    show rf_V 3 (rf_sh w) K 0 0 106 ([(0, .ref 55), (1, .int a1), (2, .int a2)], [], rf_MM w m19)
    refine rf_seg C [(.aload 0, 1), (.invokeinterface 0 15, 3), (.aload 0, 1), (.invokeinterface 0 14, 3), (.aload 0, 1), (.invokeinterface 0 10, 3), (.iload 2, 1)] (pc' := 119) (S' := ([(0, .ref 55), (1, .int a1), (2, .int a2)], [.int a2, .ref 62, .ref 69, .ref 71], rf_MM w m19)) (by decide +kernel) rfl trivial ?_
    obtain ⟨q20, hg⟩ := rf_g_some hg
    obtain ⟨k21, hk21, hg⟩ := rf_o_some hg
    refine rf_d_aaload C (n := 6) (q := k21) rfl (rf_in_of q20) hk21 (by decide +kernel) ?_
    obtain ⟨q22, hg⟩ := rf_g_some hg
    obtain ⟨q23, hg⟩ := rf_g_some hg
    obtain ⟨q24, hg⟩ := rf_g_some hg
    show rf_V 3 (rf_sh w) K 0 0 120 ([(0, .ref 55), (1, .int a1), (2, .int a2)], [.ref k21, .ref 69, .ref 71], rf_MM w m19)
    obtain ⟨m25, hc25, hg⟩ := rf_bv_some hg
    refine rf_callv C rf_fit0 j_X1_setProduct (ci := 1) (As := [.ref 69, .ref k21]) (rest := []) mw_X1_setProduct (c_X1_setProduct hc25) (by decide) rfl (by decide) lk_0_146 rfl rfl (Nat.le_of_ble_eq_true rfl) (by decide +kernel) ?_
    show rf_V 3 (rf_sh w) K 0 0 123 ([(0, .ref 55), (1, .int a1), (2, .int a2)], [], rf_MM w m25)
    refine rf_seg C [(.aload 0, 1), (.invokeinterface 0 13, 3), (.aload 0, 1), (.invokeinterface 0 15, 3), (.iconst 0, 1)] (pc' := 132) (S' := ([(0, .ref 55), (1, .int a1), (2, .int a2)], [.int 0, .ref 71, .ref 67], rf_MM w m25)) (by decide +kernel) rfl trivial ?_
    obtain ⟨m26, hc26, hg⟩ := rf_bv_some hg
    refine rf_callv C rf_fit0 j_X1_addSigned (ci := 1) (As := [.ref 71, .int 0]) (rest := []) mw_X1_addSigned (c_X1_addSigned hc26) (by decide) rfl (by decide) lk_0_150 rfl rfl (Nat.le_of_ble_eq_true rfl) (by decide +kernel) ?_
    show rf_V 3 (rf_sh w) K 0 0 135 ([(0, .ref 55), (1, .int a1), (2, .int a2)], [], rf_MM w m26)
    refine rf_seg C [(.iinc 2 1, 3)] (pc' := 138) (S' := ([(2, .int (a2 + 1)), (0, .ref 55), (1, .int a1)], [], rf_MM w m26)) (by decide +kernel) rfl trivial ?_
    refine rf_goto C (-76) 62 (by decide +kernel) ?_
    refine rf_few [1, 2, 0] rfl ?_
    exact hr62 a1 (a2 + 1) m26 hg
theorem s_X0_keep_62 {w : rf_w} {K : rf_K} {r : Int32 × rf_m} (C : rf_Ctx 0 cX0_keep 3 6 (rf_sh w) K) (hE : rf_End (some .int) K (rf_sh w) 0 0 (some (.int r.1)) (rf_MM w r.2)) (n : Nat) : ∀ (a1 : Int32) (a2 : Int32) (m : rf_m), g_X0_keep_62 w n a1 a2 m = some r → rf_V 3 (rf_sh w) K 0 0 62 ([(0, .ref 55), (1, .int a1), (2, .int a2)], [], rf_MM w m) := by
  induction n with
  | zero => intro a1 a2 m hg; cases hg
  | succ n ih => intro a1 a2 m hg; exact s_X0_keep_62_b C hE ih a1 a2 m hg
theorem s_X0_keep_46 {w : rf_w} {K : rf_K} {r : Int32 × rf_m} (C : rf_Ctx 0 cX0_keep 3 6 (rf_sh w) K) (hE : rf_End (some .int) K (rf_sh w) 0 0 (some (.int r.1)) (rf_MM w r.2)) {rec4 : Int32 → Int32 → rf_m → Option (Int32 × rf_m)} (hr4 : ∀ (a1 : Int32) (a2 : Int32) (m : rf_m), rec4 a1 a2 m = some r → rf_V 3 (rf_sh w) K 0 0 4 ([(0, .ref 55), (1, .int a1), (2, .int a2)], [], rf_MM w m)) (a1 : Int32) (a2 : Int32) (m : rf_m) (hg : g_X0_keep_46 w rec4 a1 a2 m = some r) : rf_V 3 (rf_sh w) K 0 0 46 ([(0, .ref 55), (1, .int a1), (2, .int a2)], [], rf_MM w m) := by
  unfold g_X0_keep_46 at hg
  refine rf_seg C [(.iinc 2 1, 3)] (pc' := 49) (S' := ([(2, .int (a2 + 1)), (0, .ref 55), (1, .int a1)], [], rf_MM w m)) (by decide +kernel) rfl trivial ?_
  refine rf_goto C (-45) 4 (by decide +kernel) ?_
  refine rf_few [1, 2, 0] rfl ?_
  exact hr4 a1 (a2 + 1) m hg
theorem s_X0_keep_4_b {w : rf_w} {K : rf_K} {r : Int32 × rf_m} (C : rf_Ctx 0 cX0_keep 3 6 (rf_sh w) K) (hE : rf_End (some .int) K (rf_sh w) 0 0 (some (.int r.1)) (rf_MM w r.2)) {rec4 : Int32 → Int32 → rf_m → Option (Int32 × rf_m)} (hr4 : ∀ (a1 : Int32) (a2 : Int32) (m : rf_m), rec4 a1 a2 m = some r → rf_V 3 (rf_sh w) K 0 0 4 ([(0, .ref 55), (1, .int a1), (2, .int a2)], [], rf_MM w m)) (a1 : Int32) (a2 : Int32) (m : rf_m) (hg : g_X0_keep_4_b w rec4 a1 a2 m = some r) : rf_V 3 (rf_sh w) K 0 0 4 ([(0, .ref 55), (1, .int a1), (2, .int a2)], [], rf_MM w m) := by
  unfold g_X0_keep_4_b at hg
  refine rf_seg C [(.iload 2, 1), (.iconst 80, 2)] (pc' := 7) (S' := ([(0, .ref 55), (1, .int a1), (2, .int a2)], [.int 80, .int a2], rf_MM w m)) (by decide +kernel) rfl trivial ?_
  refine rf_icmp_ge C 45 52 (by decide +kernel) (fun hc => ?_) (fun hc => ?_)
  · replace hg := (if_pos hc).symm.trans hg
    refine rf_seg C [(.aload 0, 1), (.invokeinterface 0 13, 3), (.goto_w 0, 1)] (pc' := 57) (S' := ([(0, .ref 55), (1, .int a1), (2, .int a2)], [.long 0, .ref 67], rf_MM w m)) (by decide +kernel) rfl trivial ?_
    obtain ⟨m0, hc0, hg⟩ := rf_bv_some hg
    refine rf_callv C rf_fit0 j_X1_setLong (ci := 1) (As := [.long 0]) (rest := []) mw_X1_setLong (c_X1_setLong hc0) (by decide) rfl (by decide) lk_0_131 rfl rfl (Nat.le_of_ble_eq_true rfl) (by decide +kernel) ?_
    show rf_V 3 (rf_sh w) K 0 0 60 ([(0, .ref 55), (1, .int a1), (2, .int a2)], [], rf_MM w m0)
    refine rf_seg C [(.iconst 0, 1), (.istore 2, 1)] (pc' := 62) (S' := ([(2, .int 0), (0, .ref 55), (1, .int a1)], [], rf_MM w m0)) (by decide +kernel) rfl trivial ?_
    refine rf_few [1, 2, 0] rfl ?_
    exact s_X0_keep_62 C hE rf_fuel a1 0 m0 hg
  · replace hg := (if_neg hc).symm.trans hg
    obtain ⟨q1, hg⟩ := rf_g_some hg
    obtain ⟨q2, hg⟩ := rf_g_some hg
    obtain ⟨q3, hg⟩ := rf_g_some hg
    obtain ⟨q4, hg⟩ := rf_g_some hg
    obtain ⟨q5, hg⟩ := rf_g_some hg
    refine rf_seg C [(.aload 0, 1), (.invokeinterface 0 5, 3), (.iload 2, 1), (.aload 0, 1), (.invokeinterface 0 3, 3), (.iload 2, 1), (.iaload, 1), (.iastore, 1), (.aload 0, 1), (.invokeinterface 0 6, 3), (.iload 2, 1), (.aload 0, 1), (.invokeinterface 0 4, 3), (.iload 2, 1), (.iaload, 1), (.iastore, 1), (.aload 0, 1), (.invokeinterface 0 3, 3), (.iload 2, 1), (.iaload, 1)] (pc' := 40) (S' := ([(0, .ref 55), (1, .int a1), (2, .int a2)], [.int ((rf_i (rf_i m 58 (Int32.toNatClampNeg a2) (m.1 56 (Int32.toNatClampNeg a2))) 59 (Int32.toNatClampNeg a2) ((rf_i m 58 (Int32.toNatClampNeg a2) (m.1 56 (Int32.toNatClampNeg a2))).1 57 (Int32.toNatClampNeg a2))).1 56 (Int32.toNatClampNeg a2))], rf_MM w (rf_i (rf_i m 58 (Int32.toNatClampNeg a2) (m.1 56 (Int32.toNatClampNeg a2))) 59 (Int32.toNatClampNeg a2) ((rf_i m 58 (Int32.toNatClampNeg a2) (m.1 56 (Int32.toNatClampNeg a2))).1 57 (Int32.toNatClampNeg a2))))) (by decide +kernel) rfl (by exact ⟨(rf_in_of q1), (rf_in_of q2), (rf_in_of q3), (rf_in_of q4), (rf_in_of q5)⟩) ?_
    refine rf_if_eq C 6 46 (by decide +kernel) (fun hc => ?_) (fun hc => ?_)
    · replace hg := (if_pos hc).symm.trans hg
      refine rf_few [0, 1, 2] rfl ?_
      exact s_X0_keep_46 C hE hr4 a1 a2 (rf_i (rf_i m 58 (Int32.toNatClampNeg a2) (m.1 56 (Int32.toNatClampNeg a2))) 59 (Int32.toNatClampNeg a2) ((rf_i m 58 (Int32.toNatClampNeg a2) (m.1 56 (Int32.toNatClampNeg a2))).1 57 (Int32.toNatClampNeg a2))) hg
    · replace hg := (if_neg hc).symm.trans hg
      refine rf_seg C [(.iinc 1 1, 3)] (pc' := 46) (S' := ([(1, .int (a1 + 1)), (0, .ref 55), (2, .int a2)], [], rf_MM w (rf_i (rf_i m 58 (Int32.toNatClampNeg a2) (m.1 56 (Int32.toNatClampNeg a2))) 59 (Int32.toNatClampNeg a2) ((rf_i m 58 (Int32.toNatClampNeg a2) (m.1 56 (Int32.toNatClampNeg a2))).1 57 (Int32.toNatClampNeg a2))))) (by decide +kernel) rfl trivial ?_
      refine rf_few [1, 0, 2] rfl ?_
      exact s_X0_keep_46 C hE hr4 (a1 + 1) a2 (rf_i (rf_i m 58 (Int32.toNatClampNeg a2) (m.1 56 (Int32.toNatClampNeg a2))) 59 (Int32.toNatClampNeg a2) ((rf_i m 58 (Int32.toNatClampNeg a2) (m.1 56 (Int32.toNatClampNeg a2))).1 57 (Int32.toNatClampNeg a2))) hg
theorem s_X0_keep_4 {w : rf_w} {K : rf_K} {r : Int32 × rf_m} (C : rf_Ctx 0 cX0_keep 3 6 (rf_sh w) K) (hE : rf_End (some .int) K (rf_sh w) 0 0 (some (.int r.1)) (rf_MM w r.2)) (n : Nat) : ∀ (a1 : Int32) (a2 : Int32) (m : rf_m), g_X0_keep_4 w n a1 a2 m = some r → rf_V 3 (rf_sh w) K 0 0 4 ([(0, .ref 55), (1, .int a1), (2, .int a2)], [], rf_MM w m) := by
  induction n with
  | zero => intro a1 a2 m hg; cases hg
  | succ n ih => intro a1 a2 m hg; exact s_X0_keep_4_b C hE ih a1 a2 m hg
theorem c_X0_keep {w : rf_w} {m : rf_m} {r : Int32 × rf_m} (hg : g_X0_keep w m = some r) : rf_Con j_X0_keep 6 (rf_sh w) [.ref 55] (rf_MM w m) (some (.int r.1)) (rf_MM w r.2) := by
  refine rf_con j_X0_keep 6 ⟨by decide +kernel, rfl, Nat.le_of_ble_eq_true rfl⟩ (fun K C hE => ?_)
  unfold g_X0_keep at hg
  show rf_V 3 (rf_sh w) K 0 0 0 ([(0, .ref 55)], [], rf_MM w m)
  refine rf_seg C [(.iconst 0, 1), (.istore 1, 1), (.iconst 0, 1), (.istore 2, 1)] (pc' := 4) (S' := ([(2, .int 0), (1, .int 0), (0, .ref 55)], [], rf_MM w m)) (by decide +kernel) rfl trivial ?_
  refine rf_few [2, 1, 0] rfl ?_
  exact s_X0_keep_4 C hE rf_fuel 0 0 m hg
-- X0_layChange
abbrev j_X0_layChange : rf_J := (0, yX0_layChange, cX0_layChange, 3, (some .boolean))
theorem mw_X0_layChange : rf_mv j_X0_layChange (rf_R 0) 1 := ⟨⟨rf_mem 73 (by decide +kernel), rf_mem 73 (by decide +kernel), rf_mem 1 (by decide +kernel), rf_mem 73 (by decide +kernel)⟩, by decide +kernel, by decide⟩
def g_X0_layChange_54 (w : rf_w) (rec21 : Int32 → Int32 → rf_m → Option (Int32 × rf_m)) (a1 : Int32) (a2 : Int32) (m : rf_m) : Option (Int32 × rf_m) := rec21 a1 (a2 + 1) m
def g_X0_layChange_21_b (w : rf_w) (rec21 : Int32 → Int32 → rf_m → Option (Int32 × rf_m)) (a1 : Int32) (a2 : Int32) (m : rf_m) : Option (Int32 × rf_m) := (if 6 ≤ a2 then rf_g (rf_in a1 80) (rf_bv (g_X1_setLong w m 71 (Int32.toInt64 (m.1 59 (Int32.toNatClampNeg a1)))) fun m1 => rf_bv (g_X1_setProduct w m1 67 69 71) fun m2 => some (1, m2)) else rf_g (rf_in a1 80) ((if (((Int32.toUInt32 (m.1 58 (Int32.toNatClampNeg a1)) >>> (Int32.toUInt32 a2 &&& Int32.toUInt32 31)).toInt32) &&& 1) = 0 then g_X0_layChange_54 w rec21 a1 a2 m else rf_g (rf_in a2 6) (rf_o (rf_Rt w 62 (Int32.toNatClampNeg a2)) fun k5 => rf_g (rf_isO w k5 1) (rf_g (rf_isR w k5 2 (k5 + 1)) (rf_g (rf_isA w (k5 + 1) .long 10) (rf_bv (g_X1_addSigned w m 69 k5 0) fun m9 => g_X0_layChange_54 w rec21 a1 a2 m9)))))))
def g_X0_layChange_21 (w : rf_w) : Nat → Int32 → Int32 → rf_m → Option (Int32 × rf_m)
  | 0, _, _, _ => none
  | n + 1, a1, a2, m => g_X0_layChange_21_b w (g_X0_layChange_21 w n) a1 a2 m
def g_X0_layChange (w : rf_w) (m : rf_m) (a1 : Int32) : Option (Int32 × rf_m) := rf_g (rf_in a1 80) ((if (m.1 58 (Int32.toNatClampNeg a1)) = 0 then some (0, m) else rf_bv (g_X1_setLong w m 69 0) fun m1 => g_X0_layChange_21 w rf_fuel a1 0 m1))
theorem s_X0_layChange_54 {w : rf_w} {K : rf_K} {r : Int32 × rf_m} (C : rf_Ctx 0 cX0_layChange 3 5 (rf_sh w) K) (hE : rf_End (some .boolean) K (rf_sh w) 0 0 (some (.int r.1)) (rf_MM w r.2)) {rec21 : Int32 → Int32 → rf_m → Option (Int32 × rf_m)} (hr21 : ∀ (a1 : Int32) (a2 : Int32) (m : rf_m), rec21 a1 a2 m = some r → rf_V 3 (rf_sh w) K 0 0 21 ([(0, .ref 55), (1, .int a1), (2, .int a2)], [], rf_MM w m)) (a1 : Int32) (a2 : Int32) (m : rf_m) (hg : g_X0_layChange_54 w rec21 a1 a2 m = some r) : rf_V 3 (rf_sh w) K 0 0 54 ([(0, .ref 55), (1, .int a1), (2, .int a2)], [], rf_MM w m) := by
  unfold g_X0_layChange_54 at hg
  refine rf_seg C [(.iinc 2 1, 3)] (pc' := 57) (S' := ([(2, .int (a2 + 1)), (0, .ref 55), (1, .int a1)], [], rf_MM w m)) (by decide +kernel) rfl trivial ?_
  refine rf_goto C (-36) 21 (by decide +kernel) ?_
  refine rf_few [1, 2, 0] rfl ?_
  exact hr21 a1 (a2 + 1) m hg
theorem s_X0_layChange_21_b {w : rf_w} {K : rf_K} {r : Int32 × rf_m} (C : rf_Ctx 0 cX0_layChange 3 5 (rf_sh w) K) (hE : rf_End (some .boolean) K (rf_sh w) 0 0 (some (.int r.1)) (rf_MM w r.2)) {rec21 : Int32 → Int32 → rf_m → Option (Int32 × rf_m)} (hr21 : ∀ (a1 : Int32) (a2 : Int32) (m : rf_m), rec21 a1 a2 m = some r → rf_V 3 (rf_sh w) K 0 0 21 ([(0, .ref 55), (1, .int a1), (2, .int a2)], [], rf_MM w m)) (a1 : Int32) (a2 : Int32) (m : rf_m) (hg : g_X0_layChange_21_b w rec21 a1 a2 m = some r) : rf_V 3 (rf_sh w) K 0 0 21 ([(0, .ref 55), (1, .int a1), (2, .int a2)], [], rf_MM w m) := by
  unfold g_X0_layChange_21_b at hg
  refine rf_seg C [(.iload 2, 1), (.iconst 6, 2)] (pc' := 24) (S' := ([(0, .ref 55), (1, .int a1), (2, .int a2)], [.int 6, .int a2], rf_MM w m)) (by decide +kernel) rfl trivial ?_
  refine rf_icmp_ge C 36 60 (by decide +kernel) (fun hc => ?_) (fun hc => ?_)
  · replace hg := (if_pos hc).symm.trans hg
    obtain ⟨q0, hg⟩ := rf_g_some hg
    refine rf_seg C [(.aload 0, 1), (.invokeinterface 0 15, 3), (.aload 0, 1), (.invokeinterface 0 6, 3), (.iload 1, 1), (.iaload, 1), (.i2l, 1)] (pc' := 71) (S' := ([(0, .ref 55), (1, .int a1), (2, .int a2)], [.long (Int32.toInt64 (m.1 59 (Int32.toNatClampNeg a1))), .ref 71], rf_MM w m)) (by decide +kernel) rfl (rf_in_of q0) ?_
    obtain ⟨m1, hc1, hg⟩ := rf_bv_some hg
    refine rf_callv C rf_fit0 j_X1_setLong (ci := 1) (As := [.long (Int32.toInt64 (m.1 59 (Int32.toNatClampNeg a1)))]) (rest := []) mw_X1_setLong (c_X1_setLong hc1) (by decide) rfl (by decide) lk_0_131 rfl rfl (Nat.le_of_ble_eq_true rfl) (by decide +kernel) ?_
    show rf_V 3 (rf_sh w) K 0 0 74 ([(0, .ref 55), (1, .int a1), (2, .int a2)], [], rf_MM w m1)
    refine rf_seg C [(.aload 0, 1), (.invokeinterface 0 13, 3), (.aload 0, 1), (.invokeinterface 0 14, 3), (.aload 0, 1), (.invokeinterface 0 15, 3)] (pc' := 86) (S' := ([(0, .ref 55), (1, .int a1), (2, .int a2)], [.ref 71, .ref 69, .ref 67], rf_MM w m1)) (by decide +kernel) rfl trivial ?_
    obtain ⟨m2, hc2, hg⟩ := rf_bv_some hg
    refine rf_callv C rf_fit0 j_X1_setProduct (ci := 1) (As := [.ref 69, .ref 71]) (rest := []) mw_X1_setProduct (c_X1_setProduct hc2) (by decide) rfl (by decide) lk_0_146 rfl rfl (Nat.le_of_ble_eq_true rfl) (by decide +kernel) ?_
    show rf_V 3 (rf_sh w) K 0 0 89 ([(0, .ref 55), (1, .int a1), (2, .int a2)], [], rf_MM w m2)
    refine rf_seg C [(.iconst 1, 1)] (pc' := 90) (S' := ([(0, .ref 55), (1, .int a1), (2, .int a2)], [.int 1], rf_MM w m2)) (by decide +kernel) rfl trivial ?_
    obtain rfl := Option.some.inj hg
    exact rf_zret C hE (by decide) (by decide +kernel)
  · replace hg := (if_neg hc).symm.trans hg
    obtain ⟨q3, hg⟩ := rf_g_some hg
    refine rf_seg C [(.aload 0, 1), (.invokeinterface 0 5, 3), (.iload 1, 1), (.iaload, 1), (.iload 2, 1), (.iushr, 1), (.iconst 1, 1), (.iand, 1)] (pc' := 37) (S' := ([(0, .ref 55), (1, .int a1), (2, .int a2)], [.int (((Int32.toUInt32 (m.1 58 (Int32.toNatClampNeg a1)) >>> (Int32.toUInt32 a2 &&& Int32.toUInt32 31)).toInt32) &&& 1)], rf_MM w m)) (by decide +kernel) rfl (rf_in_of q3) ?_
    refine rf_if_eq C 17 54 (by decide +kernel) (fun hc => ?_) (fun hc => ?_)
    · replace hg := (if_pos hc).symm.trans hg
      refine rf_few [0, 1, 2] rfl ?_
      exact s_X0_layChange_54 C hE hr21 a1 a2 m hg
    · replace hg := (if_neg hc).symm.trans hg
      refine rf_seg C [(.aload 0, 1), (.invokeinterface 0 14, 3), (.aload 0, 1), (.invokeinterface 0 10, 3), (.iload 2, 1)] (pc' := 49) (S' := ([(0, .ref 55), (1, .int a1), (2, .int a2)], [.int a2, .ref 62, .ref 69], rf_MM w m)) (by decide +kernel) rfl trivial ?_
      obtain ⟨q4, hg⟩ := rf_g_some hg
      obtain ⟨k5, hk5, hg⟩ := rf_o_some hg
      refine rf_d_aaload C (n := 6) (q := k5) rfl (rf_in_of q4) hk5 (by decide +kernel) ?_
      obtain ⟨q6, hg⟩ := rf_g_some hg
      obtain ⟨q7, hg⟩ := rf_g_some hg
      obtain ⟨q8, hg⟩ := rf_g_some hg
      show rf_V 3 (rf_sh w) K 0 0 50 ([(0, .ref 55), (1, .int a1), (2, .int a2)], [.ref k5, .ref 69], rf_MM w m)
      refine rf_seg C [(.iconst 0, 1)] (pc' := 51) (S' := ([(0, .ref 55), (1, .int a1), (2, .int a2)], [.int 0, .ref k5, .ref 69], rf_MM w m)) (by decide +kernel) rfl trivial ?_
      obtain ⟨m9, hc9, hg⟩ := rf_bv_some hg
      refine rf_callv C rf_fit0 j_X1_addSigned (ci := 1) (As := [.ref k5, .int 0]) (rest := []) mw_X1_addSigned (c_X1_addSigned hc9) (by decide) rfl (by decide) lk_0_150 rfl rfl (Nat.le_of_ble_eq_true rfl) (by decide +kernel) ?_
      show rf_V 3 (rf_sh w) K 0 0 54 ([(0, .ref 55), (1, .int a1), (2, .int a2)], [], rf_MM w m9)
      refine rf_few [0, 1, 2] rfl ?_
      exact s_X0_layChange_54 C hE hr21 a1 a2 m9 hg
theorem s_X0_layChange_21 {w : rf_w} {K : rf_K} {r : Int32 × rf_m} (C : rf_Ctx 0 cX0_layChange 3 5 (rf_sh w) K) (hE : rf_End (some .boolean) K (rf_sh w) 0 0 (some (.int r.1)) (rf_MM w r.2)) (n : Nat) : ∀ (a1 : Int32) (a2 : Int32) (m : rf_m), g_X0_layChange_21 w n a1 a2 m = some r → rf_V 3 (rf_sh w) K 0 0 21 ([(0, .ref 55), (1, .int a1), (2, .int a2)], [], rf_MM w m) := by
  induction n with
  | zero => intro a1 a2 m hg; cases hg
  | succ n ih => intro a1 a2 m hg; exact s_X0_layChange_21_b C hE ih a1 a2 m hg
theorem c_X0_layChange {w : rf_w} {m : rf_m} {a1 : Int32} {r : Int32 × rf_m} (hg : g_X0_layChange w m a1 = some r) : rf_Con j_X0_layChange 5 (rf_sh w) [.ref 55, .int a1] (rf_MM w m) (some (.int r.1)) (rf_MM w r.2) := by
  refine rf_con j_X0_layChange 5 ⟨by decide +kernel, rfl, Nat.le_of_ble_eq_true rfl⟩ (fun K C hE => ?_)
  unfold g_X0_layChange at hg
  show rf_V 3 (rf_sh w) K 0 0 0 ([(0, .ref 55), (1, .int a1)], [], rf_MM w m)
  obtain ⟨q0, hg⟩ := rf_g_some hg
  refine rf_seg C [(.aload 0, 1), (.invokeinterface 0 5, 3), (.iload 1, 1), (.iaload, 1)] (pc' := 6) (S' := ([(0, .ref 55), (1, .int a1)], [.int (m.1 58 (Int32.toNatClampNeg a1))], rf_MM w m)) (by decide +kernel) rfl (rf_in_of q0) ?_
  refine rf_if_ne C 5 11 (by decide +kernel) (fun hc => ?_) (fun hc => ?_)
  · replace hg := (if_neg hc).symm.trans hg
    refine rf_seg C [(.aload 0, 1), (.invokeinterface 0 14, 3), (.goto_w 0, 1)] (pc' := 16) (S' := ([(0, .ref 55), (1, .int a1)], [.long 0, .ref 69], rf_MM w m)) (by decide +kernel) rfl trivial ?_
    obtain ⟨m1, hc1, hg⟩ := rf_bv_some hg
    refine rf_callv C rf_fit0 j_X1_setLong (ci := 1) (As := [.long 0]) (rest := []) mw_X1_setLong (c_X1_setLong hc1) (by decide) rfl (by decide) lk_0_131 rfl rfl (Nat.le_of_ble_eq_true rfl) (by decide +kernel) ?_
    show rf_V 3 (rf_sh w) K 0 0 19 ([(0, .ref 55), (1, .int a1)], [], rf_MM w m1)
    refine rf_seg C [(.iconst 0, 1), (.istore 2, 1)] (pc' := 21) (S' := ([(2, .int 0), (0, .ref 55), (1, .int a1)], [], rf_MM w m1)) (by decide +kernel) rfl trivial ?_
    refine rf_few [1, 2, 0] rfl ?_
    exact s_X0_layChange_21 C hE rf_fuel a1 0 m1 hg
  · replace hg := (if_pos hc).symm.trans hg
    refine rf_seg C [(.iconst 0, 1)] (pc' := 10) (S' := ([(0, .ref 55), (1, .int a1)], [.int 0], rf_MM w m)) (by decide +kernel) rfl trivial ?_
    obtain rfl := Option.some.inj hg
    exact rf_zret C hE (by decide) (by decide +kernel)
-- X0_thousandths
abbrev j_X0_thousandths : rf_J := (0, yX0_thousandths, cX0_thousandths, 4, (some .int))
theorem mw_X0_thousandths : rf_mv j_X0_thousandths (rf_R 0) 1 := ⟨⟨rf_mem 73 (by decide +kernel), rf_mem 73 (by decide +kernel), rf_mem 1 (by decide +kernel), rf_mem 73 (by decide +kernel)⟩, by decide +kernel, by decide⟩
def g_X0_thousandths (w : rf_w) (m : rf_m) (a1 : Int32) : Option (Int32 × rf_m) := rf_b (g_X0_layChange w m a1) fun y0 m0 => (if y0 = 0 then some ((-2147483648), m0) else rf_bv (g_X1_setLong w m0 69 1000) fun m1 => rf_bv (g_X1_setProduct w m1 71 67 69) fun m2 => rf_bv (g_X1_setFloor w m2 67 71 63 75 77) fun m3 => rf_b (g_X1_isLong w m3 67) fun y4 m4 => (if y4 = 0 then (if (lg_cmp ((-9223372036854775808)) (Int32.toInt64 (Int64.toInt32 ((-9223372036854775808))))) = 0 then some (Int64.toInt32 ((-9223372036854775808)), m4) else some ((-2147483648), m4)) else rf_b (g_X1_toLong w m4 67) fun y5 m5 => (if (lg_cmp y5 (Int32.toInt64 (Int64.toInt32 y5))) = 0 then some (Int64.toInt32 y5, m5) else some ((-2147483648), m5))))
theorem c_X0_thousandths {w : rf_w} {m : rf_m} {a1 : Int32} {r : Int32 × rf_m} (hg : g_X0_thousandths w m a1 = some r) : rf_Con j_X0_thousandths 6 (rf_sh w) [.ref 55, .int a1] (rf_MM w m) (some (.int r.1)) (rf_MM w r.2) := by
  refine rf_con j_X0_thousandths 6 ⟨by decide +kernel, rfl, Nat.le_of_ble_eq_true rfl⟩ (fun K C hE => ?_)
  unfold g_X0_thousandths at hg
  show rf_V 4 (rf_sh w) K 0 0 0 ([(0, .ref 55), (1, .int a1)], [], rf_MM w m)
  refine rf_seg C [(.aload 0, 1), (.iload 1, 1)] (pc' := 2) (S' := ([(0, .ref 55), (1, .int a1)], [.int a1, .ref 55], rf_MM w m)) (by decide +kernel) rfl trivial ?_
  obtain ⟨y0, m0, hc0, hg⟩ := rf_b_some hg
  refine rf_callv C rf_fit0 j_X0_layChange (ci := 0) (As := [.int a1]) (rest := []) mw_X0_layChange (c_X0_layChange hc0) (by decide) rfl (by decide) lk_0_171 rfl rfl (Nat.le_of_ble_eq_true rfl) (by decide +kernel) ?_
  show rf_V 4 (rf_sh w) K 0 0 5 ([(0, .ref 55), (1, .int a1)], [.int y0], rf_MM w m0)
  refine rf_if_ne C 6 11 (by decide +kernel) (fun hc => ?_) (fun hc => ?_)
  · replace hg := (if_neg hc).symm.trans hg
    refine rf_seg C [(.aload 0, 1), (.invokeinterface 0 14, 3), (.goto_w 1000, 3)] (pc' := 18) (S' := ([(0, .ref 55), (1, .int a1)], [.long 1000, .ref 69], rf_MM w m0)) (by decide +kernel) rfl trivial ?_
    obtain ⟨m1, hc1, hg⟩ := rf_bv_some hg
    refine rf_callv C rf_fit0 j_X1_setLong (ci := 1) (As := [.long 1000]) (rest := []) mw_X1_setLong (c_X1_setLong hc1) (by decide) rfl (by decide) lk_0_131 rfl rfl (Nat.le_of_ble_eq_true rfl) (by decide +kernel) ?_
    show rf_V 4 (rf_sh w) K 0 0 21 ([(0, .ref 55), (1, .int a1)], [], rf_MM w m1)
    refine rf_seg C [(.aload 0, 1), (.invokeinterface 0 15, 3), (.aload 0, 1), (.invokeinterface 0 13, 3), (.aload 0, 1), (.invokeinterface 0 14, 3)] (pc' := 33) (S' := ([(0, .ref 55), (1, .int a1)], [.ref 69, .ref 67, .ref 71], rf_MM w m1)) (by decide +kernel) rfl trivial ?_
    obtain ⟨m2, hc2, hg⟩ := rf_bv_some hg
    refine rf_callv C rf_fit0 j_X1_setProduct (ci := 1) (As := [.ref 67, .ref 69]) (rest := []) mw_X1_setProduct (c_X1_setProduct hc2) (by decide) rfl (by decide) lk_0_146 rfl rfl (Nat.le_of_ble_eq_true rfl) (by decide +kernel) ?_
    show rf_V 4 (rf_sh w) K 0 0 36 ([(0, .ref 55), (1, .int a1)], [], rf_MM w m2)
    refine rf_seg C [(.aload 0, 1), (.invokeinterface 0 13, 3), (.aload 0, 1), (.invokeinterface 0 15, 3), (.aload 0, 1), (.invokeinterface 0 11, 3), (.aload 0, 1), (.invokeinterface 0 17, 3), (.aload 0, 1), (.invokeinterface 0 18, 3)] (pc' := 56) (S' := ([(0, .ref 55), (1, .int a1)], [.ref 77, .ref 75, .ref 63, .ref 71, .ref 67], rf_MM w m2)) (by decide +kernel) rfl trivial ?_
    obtain ⟨m3, hc3, hg⟩ := rf_bv_some hg
    refine rf_callv C rf_fit0 j_X1_setFloor (ci := 1) (As := [.ref 71, .ref 63, .ref 75, .ref 77]) (rest := []) mw_X1_setFloor (c_X1_setFloor hc3) (by decide) rfl (by decide) lk_0_160 rfl rfl (Nat.le_of_ble_eq_true rfl) (by decide +kernel) ?_
    show rf_V 4 (rf_sh w) K 0 0 59 ([(0, .ref 55), (1, .int a1)], [], rf_MM w m3)
    refine rf_seg C [(.aload 0, 1), (.invokeinterface 0 13, 3)] (pc' := 63) (S' := ([(0, .ref 55), (1, .int a1)], [.ref 67], rf_MM w m3)) (by decide +kernel) rfl trivial ?_
    obtain ⟨y4, m4, hc4, hg⟩ := rf_b_some hg
    refine rf_callv C rf_fit0 j_X1_isLong (ci := 1) (As := []) (rest := []) mw_X1_isLong (c_X1_isLong hc4) (by decide) rfl (by decide) lk_0_163 rfl rfl (Nat.le_of_ble_eq_true rfl) (by decide +kernel) ?_
    show rf_V 4 (rf_sh w) K 0 0 66 ([(0, .ref 55), (1, .int a1)], [.int y4], rf_MM w m4)
    refine rf_if_eq C 13 79 (by decide +kernel) (fun hc => ?_) (fun hc => ?_)
    · replace hg := (if_pos hc).symm.trans hg
      refine rf_seg C [(.goto_w (-9223372036854775808), 3), (.lstore 2, 1), (.lload 2, 1), (.lload 2, 1), (.l2i, 1), (.i2l, 1), (.lcmp, 1)] (pc' := 88) (S' := ([(2, .long ((-9223372036854775808))), (0, .ref 55), (1, .int a1)], [.int (lg_cmp ((-9223372036854775808)) (Int32.toInt64 (Int64.toInt32 ((-9223372036854775808)))))], rf_MM w m4)) (by decide +kernel) rfl trivial ?_
      refine rf_if_ne C 8 96 (by decide +kernel) (fun hc => ?_) (fun hc => ?_)
      · replace hg := (if_neg hc).symm.trans hg
        refine rf_seg C [(.iconst (-2147483648), 2)] (pc' := 98) (S' := ([(2, .long ((-9223372036854775808))), (0, .ref 55), (1, .int a1)], [.int ((-2147483648))], rf_MM w m4)) (by decide +kernel) rfl trivial ?_
        obtain rfl := Option.some.inj hg
        exact rf_iret C hE (by decide +kernel)
      · replace hg := (if_pos hc).symm.trans hg
        refine rf_seg C [(.lload 2, 1), (.l2i, 1)] (pc' := 93) (S' := ([(2, .long ((-9223372036854775808))), (0, .ref 55), (1, .int a1)], [.int (Int64.toInt32 ((-9223372036854775808)))], rf_MM w m4)) (by decide +kernel) rfl trivial ?_
        refine rf_goto C 5 98 (by decide +kernel) ?_
        obtain rfl := Option.some.inj hg
        exact rf_iret C hE (by decide +kernel)
    · replace hg := (if_neg hc).symm.trans hg
      refine rf_seg C [(.aload 0, 1), (.invokeinterface 0 13, 3)] (pc' := 73) (S' := ([(0, .ref 55), (1, .int a1)], [.ref 67], rf_MM w m4)) (by decide +kernel) rfl trivial ?_
      obtain ⟨y5, m5, hc5, hg⟩ := rf_b_some hg
      refine rf_callv C rf_fit0 j_X1_toLong (ci := 1) (As := []) (rest := []) mw_X1_toLong (c_X1_toLong hc5) (by decide) rfl (by decide) lk_0_167 rfl rfl (Nat.le_of_ble_eq_true rfl) (by decide +kernel) ?_
      show rf_V 4 (rf_sh w) K 0 0 76 ([(0, .ref 55), (1, .int a1)], [.long y5], rf_MM w m5)
      refine rf_goto C 6 82 (by decide +kernel) ?_
      refine rf_seg C [(.lstore 2, 1), (.lload 2, 1), (.lload 2, 1), (.l2i, 1), (.i2l, 1), (.lcmp, 1)] (pc' := 88) (S' := ([(2, .long y5), (0, .ref 55), (1, .int a1)], [.int (lg_cmp y5 (Int32.toInt64 (Int64.toInt32 y5)))], rf_MM w m5)) (by decide +kernel) rfl trivial ?_
      refine rf_if_ne C 8 96 (by decide +kernel) (fun hc => ?_) (fun hc => ?_)
      · replace hg := (if_neg hc).symm.trans hg
        refine rf_seg C [(.iconst (-2147483648), 2)] (pc' := 98) (S' := ([(2, .long y5), (0, .ref 55), (1, .int a1)], [.int ((-2147483648))], rf_MM w m5)) (by decide +kernel) rfl trivial ?_
        obtain rfl := Option.some.inj hg
        exact rf_iret C hE (by decide +kernel)
      · replace hg := (if_pos hc).symm.trans hg
        refine rf_seg C [(.lload 2, 1), (.l2i, 1)] (pc' := 93) (S' := ([(2, .long y5), (0, .ref 55), (1, .int a1)], [.int (Int64.toInt32 y5)], rf_MM w m5)) (by decide +kernel) rfl trivial ?_
        refine rf_goto C 5 98 (by decide +kernel) ?_
        obtain rfl := Option.some.inj hg
        exact rf_iret C hE (by decide +kernel)
  · replace hg := (if_pos hc).symm.trans hg
    refine rf_seg C [(.iconst (-2147483648), 2)] (pc' := 10) (S' := ([(0, .ref 55), (1, .int a1)], [.int ((-2147483648))], rf_MM w m0)) (by decide +kernel) rfl trivial ?_
    obtain rfl := Option.some.inj hg
    exact rf_iret C hE (by decide +kernel)
-- X0_isShort
abbrev j_X0_isShort : rf_J := (0, yX0_isShort, cX0_isShort, 1, (some .boolean))
theorem mw_X0_isShort : rf_ms j_X0_isShort 1 := ⟨⟨rf_mem 74 (by decide +kernel), rf_mem 1 (by decide +kernel), rf_mem 74 (by decide +kernel)⟩, by decide +kernel, by decide⟩
def g_X0_isShort (w : rf_w) (m : rf_m) (a0 : Nat) : Option (Int32 × rf_m) := rf_g (rf_isO w a0 1) (rf_g (rf_isR w a0 2 (a0 + 1)) (rf_g (rf_isA w (a0 + 1) .long 10) (rf_b (g_X1_isLong w m a0) fun y3 m3 => (if y3 = 0 then some (0, m3) else rf_b (g_X1_toLong w m3 a0) fun y4 m4 => rf_b (g_absL w m4 y4) fun y5 m5 => (if (0 : Int32) ≤ (lg_cmp y5 1000000000) then some (0, m5) else some (1, m5))))))
theorem c_X0_isShort {w : rf_w} {m : rf_m} {a0 : Nat} {r : Int32 × rf_m} (hg : g_X0_isShort w m a0 = some r) : rf_Con j_X0_isShort 2 (rf_sh w) [.ref a0] (rf_MM w m) (some (.int r.1)) (rf_MM w r.2) := by
  refine rf_con j_X0_isShort 2 ⟨by decide +kernel, rfl, Nat.le_of_ble_eq_true rfl⟩ (fun K C hE => ?_)
  unfold g_X0_isShort at hg
  show rf_V 1 (rf_sh w) K 0 0 0 ([(0, .ref a0)], [], rf_MM w m)
  obtain ⟨q0, hg⟩ := rf_g_some hg
  obtain ⟨q1, hg⟩ := rf_g_some hg
  obtain ⟨q2, hg⟩ := rf_g_some hg
  refine rf_seg C [(.aload 0, 1)] (pc' := 1) (S' := ([(0, .ref a0)], [.ref a0], rf_MM w m)) (by decide +kernel) rfl trivial ?_
  obtain ⟨y3, m3, hc3, hg⟩ := rf_b_some hg
  refine rf_callv C rf_fit0 j_X1_isLong (ci := 1) (As := []) (rest := []) mw_X1_isLong (c_X1_isLong hc3) (by decide) (rf_isO_of q0) (by decide) lk_0_163 rfl rfl (Nat.le_of_ble_eq_true rfl) (by decide +kernel) ?_
  show rf_V 1 (rf_sh w) K 0 0 4 ([(0, .ref a0)], [.int y3], rf_MM w m3)
  refine rf_if_eq C 21 25 (by decide +kernel) (fun hc => ?_) (fun hc => ?_)
  · replace hg := (if_pos hc).symm.trans hg
    refine rf_seg C [(.iconst 0, 1)] (pc' := 26) (S' := ([(0, .ref a0)], [.int 0], rf_MM w m3)) (by decide +kernel) rfl trivial ?_
    obtain rfl := Option.some.inj hg
    exact rf_zret C hE (by decide) (by decide +kernel)
  · replace hg := (if_neg hc).symm.trans hg
    refine rf_seg C [(.aload 0, 1)] (pc' := 8) (S' := ([(0, .ref a0)], [.ref a0], rf_MM w m3)) (by decide +kernel) rfl trivial ?_
    obtain ⟨y4, m4, hc4, hg⟩ := rf_b_some hg
    refine rf_callv C rf_fit0 j_X1_toLong (ci := 1) (As := []) (rest := []) mw_X1_toLong (c_X1_toLong hc4) (by decide) (rf_isO_of q0) (by decide) lk_0_167 rfl rfl (Nat.le_of_ble_eq_true rfl) (by decide +kernel) ?_
    show rf_V 1 (rf_sh w) K 0 0 11 ([(0, .ref a0)], [.long y4], rf_MM w m4)
    obtain ⟨y5, m5, hc5, hg⟩ := rf_b_some hg
    refine rf_calls C rf_fit0 j_absL (As := [.long y4]) (rest := []) mw_absL (c_absL hc5) (by decide) lk_0_183 rfl rfl (Nat.le_of_ble_eq_true rfl) (by decide +kernel) ?_
    show rf_V 1 (rf_sh w) K 0 0 14 ([(0, .ref a0)], [.long y5], rf_MM w m5)
    refine rf_seg C [(.goto_w 1000000000, 3), (.lcmp, 1)] (pc' := 18) (S' := ([(0, .ref a0)], [.int (lg_cmp y5 1000000000)], rf_MM w m5)) (by decide +kernel) rfl trivial ?_
    refine rf_if_ge C 7 25 (by decide +kernel) (fun hc => ?_) (fun hc => ?_)
    · replace hg := (if_pos hc).symm.trans hg
      refine rf_seg C [(.iconst 0, 1)] (pc' := 26) (S' := ([(0, .ref a0)], [.int 0], rf_MM w m5)) (by decide +kernel) rfl trivial ?_
      obtain rfl := Option.some.inj hg
      exact rf_zret C hE (by decide) (by decide +kernel)
    · replace hg := (if_neg hc).symm.trans hg
      refine rf_seg C [(.iconst 1, 1)] (pc' := 22) (S' := ([(0, .ref a0)], [.int 1], rf_MM w m5)) (by decide +kernel) rfl trivial ?_
      refine rf_goto C 4 26 (by decide +kernel) ?_
      obtain rfl := Option.some.inj hg
      exact rf_zret C hE (by decide) (by decide +kernel)
-- X1_dropSign
abbrev j_X1_dropSign : rf_J := (1, yX1_dropSign, cX1_dropSign, 1, none)
theorem mw_X1_dropSign : rf_mv j_X1_dropSign (rf_R 1) 0 := ⟨⟨rf_mem 74 (by decide +kernel), rf_mem 74 (by decide +kernel), rf_mem 5 (by decide +kernel), rf_mem 74 (by decide +kernel)⟩, by decide +kernel, by decide⟩
def g_X1_dropSign (w : rf_w) (m : rf_m) (a0 : Nat) : Option (rf_m) := rf_g (rf_isO w a0 1) (rf_g (rf_isR w a0 2 (a0 + 1)) (rf_g (rf_isA w (a0 + 1) .long 10) (some (rf_i m a0 1 0))))
theorem c_X1_dropSign {w : rf_w} {m : rf_m} {a0 : Nat} {r : rf_m} (hg : g_X1_dropSign w m a0 = some r) : rf_Con j_X1_dropSign 1 (rf_sh w) [.ref a0] (rf_MM w m) none (rf_MM w r) := by
  refine rf_con j_X1_dropSign 1 ⟨by decide +kernel, rfl, Nat.le_of_ble_eq_true rfl⟩ (fun K C hE => ?_)
  unfold g_X1_dropSign at hg
  show rf_V 1 (rf_sh w) K 0 0 0 ([(0, .ref a0)], [], rf_MM w m)
  obtain ⟨q0, hg⟩ := rf_g_some hg
  obtain ⟨q1, hg⟩ := rf_g_some hg
  obtain ⟨q2, hg⟩ := rf_g_some hg
  refine rf_seg C [(.aload 0, 1), (.iconst 0, 1)] (pc' := 2) (S' := ([(0, .ref a0)], [.int 0, .ref a0], rf_MM w m)) (by decide +kernel) rfl trivial ?_
  refine rf_d_putz C 1 1 (rf_isO_of q0) rfl (by decide) (by decide +kernel) ?_
  show rf_V 1 (rf_sh w) K 0 0 5 ([(0, .ref a0)], [], rf_MM w (rf_i m a0 1 0))
  obtain rfl := Option.some.inj hg
  exact rf_vret C hE (by decide +kernel)
-- X0_lowestTerm
abbrev j_X0_lowestTerm : rf_J := (0, yX0_lowestTerm, cX0_lowestTerm, 4, (some .int))
theorem mw_X0_lowestTerm : rf_mv j_X0_lowestTerm (rf_R 0) 2 := ⟨⟨rf_mem 73 (by decide +kernel), rf_mem 74 (by decide +kernel), rf_mem 1 (by decide +kernel), rf_mem 74 (by decide +kernel)⟩, by decide +kernel, by decide⟩
def g_X0_lowestTerm_110 (w : rf_w) (a2 : Int32) (m : rf_m) : Option (Int32 × rf_m) := rf_bv (g_X1_setQuotient w m 71 67 69 75 77) fun m0 => rf_bv (g_X1_setQuotient w m0 73 63 69 75 77) fun m1 => rf_b (g_X0_isShort w m1 71) fun y2 m2 => (if y2 = 0 then some ((-2147483648), m2) else rf_b (g_X0_isShort w m2 73) fun y3 m3 => (if y3 = 0 then some ((-2147483648), m3) else (if a2 = 0 then rf_b (g_X1_toLong w m3 71) fun y4 m4 => some (Int64.toInt32 y4, m4) else rf_b (g_X1_toLong w m3 73) fun y5 m5 => some (Int64.toInt32 y5, m5))))
def g_X0_lowestTerm_42_b (w : rf_w) (rec42 : Int32 → Int32 → rf_m → Option (Int32 × rf_m)) (a2 : Int32) (a3 : Int32) (m : rf_m) : Option (Int32 × rf_m) := (if 1000 ≤ a3 then g_X0_lowestTerm_110 w a2 m else (if (m.1 71 0) ≤ 0 then g_X0_lowestTerm_110 w a2 m else rf_bv (g_X1_setQuotient w m 73 69 71 75 77) fun m0 => rf_bv (g_X1_copyFrom w m0 69 71) fun m1 => rf_bv (g_X1_copyFrom w m1 71 75) fun m2 => rec42 a2 (a3 + 1) m2))
def g_X0_lowestTerm_42 (w : rf_w) : Nat → Int32 → Int32 → rf_m → Option (Int32 × rf_m)
  | 0, _, _, _ => none
  | n + 1, a2, a3, m => g_X0_lowestTerm_42_b w (g_X0_lowestTerm_42 w n) a2 a3 m
def g_X0_lowestTerm (w : rf_w) (m : rf_m) (a1 : Int32) (a2 : Int32) : Option (Int32 × rf_m) := rf_b (g_X0_layChange w m a1) fun y0 m0 => (if y0 = 0 then some ((-2147483648), m0) else rf_bv (g_X1_copyFrom w m0 69 67) fun m1 => rf_bv (g_X1_dropSign w m1 69) fun m2 => rf_bv (g_X1_copyFrom w m2 71 63) fun m3 => g_X0_lowestTerm_42 w rf_fuel a2 0 m3)
theorem s_X0_lowestTerm_110 {w : rf_w} {K : rf_K} {r : Int32 × rf_m} (C : rf_Ctx 0 cX0_lowestTerm 4 6 (rf_sh w) K) (hE : rf_End (some .int) K (rf_sh w) 0 0 (some (.int r.1)) (rf_MM w r.2)) (a2 : Int32) (m : rf_m) (hg : g_X0_lowestTerm_110 w a2 m = some r) : rf_V 4 (rf_sh w) K 0 0 110 ([(0, .ref 55), (2, .int a2)], [], rf_MM w m) := by
  unfold g_X0_lowestTerm_110 at hg
  refine rf_seg C [(.aload 0, 1), (.invokeinterface 0 15, 3), (.aload 0, 1), (.invokeinterface 0 13, 3), (.aload 0, 1), (.invokeinterface 0 14, 3), (.aload 0, 1), (.invokeinterface 0 17, 3), (.aload 0, 1), (.invokeinterface 0 18, 3)] (pc' := 130) (S' := ([(0, .ref 55), (2, .int a2)], [.ref 77, .ref 75, .ref 69, .ref 67, .ref 71], rf_MM w m)) (by decide +kernel) rfl trivial ?_
  obtain ⟨m0, hc0, hg⟩ := rf_bv_some hg
  refine rf_callv C rf_fit0 j_X1_setQuotient (ci := 1) (As := [.ref 67, .ref 69, .ref 75, .ref 77]) (rest := []) mw_X1_setQuotient (c_X1_setQuotient hc0) (by decide) rfl (by decide) lk_0_154 rfl rfl (Nat.le_of_ble_eq_true rfl) (by decide +kernel) ?_
  show rf_V 4 (rf_sh w) K 0 0 133 ([(0, .ref 55), (2, .int a2)], [], rf_MM w m0)
  refine rf_seg C [(.aload 0, 1), (.invokeinterface 0 16, 3), (.aload 0, 1), (.invokeinterface 0 11, 3), (.aload 0, 1), (.invokeinterface 0 14, 3), (.aload 0, 1), (.invokeinterface 0 17, 3), (.aload 0, 1), (.invokeinterface 0 18, 3)] (pc' := 153) (S' := ([(0, .ref 55), (2, .int a2)], [.ref 77, .ref 75, .ref 69, .ref 63, .ref 73], rf_MM w m0)) (by decide +kernel) rfl trivial ?_
  obtain ⟨m1, hc1, hg⟩ := rf_bv_some hg
  refine rf_callv C rf_fit0 j_X1_setQuotient (ci := 1) (As := [.ref 63, .ref 69, .ref 75, .ref 77]) (rest := []) mw_X1_setQuotient (c_X1_setQuotient hc1) (by decide) rfl (by decide) lk_0_154 rfl rfl (Nat.le_of_ble_eq_true rfl) (by decide +kernel) ?_
  show rf_V 4 (rf_sh w) K 0 0 156 ([(0, .ref 55), (2, .int a2)], [], rf_MM w m1)
  refine rf_seg C [(.aload 0, 1), (.invokeinterface 0 15, 3)] (pc' := 160) (S' := ([(0, .ref 55), (2, .int a2)], [.ref 71], rf_MM w m1)) (by decide +kernel) rfl trivial ?_
  obtain ⟨y2, m2, hc2, hg⟩ := rf_b_some hg
  refine rf_calls C rf_fit0 j_X0_isShort (As := [.ref 71]) (rest := []) mw_X0_isShort (c_X0_isShort hc2) (by decide) lk_0_179 rfl rfl (Nat.le_of_ble_eq_true rfl) (by decide +kernel) ?_
  show rf_V 4 (rf_sh w) K 0 0 163 ([(0, .ref 55), (2, .int a2)], [.int y2], rf_MM w m2)
  refine rf_if_eq C 13 176 (by decide +kernel) (fun hc => ?_) (fun hc => ?_)
  · replace hg := (if_pos hc).symm.trans hg
    refine rf_seg C [(.iconst (-2147483648), 2)] (pc' := 178) (S' := ([(0, .ref 55), (2, .int a2)], [.int ((-2147483648))], rf_MM w m2)) (by decide +kernel) rfl trivial ?_
    obtain rfl := Option.some.inj hg
    exact rf_iret C hE (by decide +kernel)
  · replace hg := (if_neg hc).symm.trans hg
    refine rf_seg C [(.aload 0, 1), (.invokeinterface 0 16, 3)] (pc' := 170) (S' := ([(0, .ref 55), (2, .int a2)], [.ref 73], rf_MM w m2)) (by decide +kernel) rfl trivial ?_
    obtain ⟨y3, m3, hc3, hg⟩ := rf_b_some hg
    refine rf_calls C rf_fit0 j_X0_isShort (As := [.ref 73]) (rest := []) mw_X0_isShort (c_X0_isShort hc3) (by decide) lk_0_179 rfl rfl (Nat.le_of_ble_eq_true rfl) (by decide +kernel) ?_
    show rf_V 4 (rf_sh w) K 0 0 173 ([(0, .ref 55), (2, .int a2)], [.int y3], rf_MM w m3)
    refine rf_if_ne C 6 179 (by decide +kernel) (fun hc => ?_) (fun hc => ?_)
    · replace hg := (if_neg hc).symm.trans hg
      refine rf_seg C [(.iload 2, 1)] (pc' := 180) (S' := ([(0, .ref 55), (2, .int a2)], [.int a2], rf_MM w m3)) (by decide +kernel) rfl trivial ?_
      refine rf_if_eq C 13 193 (by decide +kernel) (fun hc => ?_) (fun hc => ?_)
      · replace hg := (if_pos hc).symm.trans hg
        refine rf_seg C [(.aload 0, 1), (.invokeinterface 0 15, 3)] (pc' := 197) (S' := ([(0, .ref 55), (2, .int a2)], [.ref 71], rf_MM w m3)) (by decide +kernel) rfl trivial ?_
        obtain ⟨y4, m4, hc4, hg⟩ := rf_b_some hg
        refine rf_callv C rf_fit0 j_X1_toLong (ci := 1) (As := []) (rest := []) mw_X1_toLong (c_X1_toLong hc4) (by decide) rfl (by decide) lk_0_167 rfl rfl (Nat.le_of_ble_eq_true rfl) (by decide +kernel) ?_
        show rf_V 4 (rf_sh w) K 0 0 200 ([(0, .ref 55), (2, .int a2)], [.long y4], rf_MM w m4)
        refine rf_seg C [(.l2i, 1)] (pc' := 201) (S' := ([(0, .ref 55), (2, .int a2)], [.int (Int64.toInt32 y4)], rf_MM w m4)) (by decide +kernel) rfl trivial ?_
        obtain rfl := Option.some.inj hg
        exact rf_iret C hE (by decide +kernel)
      · replace hg := (if_neg hc).symm.trans hg
        refine rf_seg C [(.aload 0, 1), (.invokeinterface 0 16, 3)] (pc' := 187) (S' := ([(0, .ref 55), (2, .int a2)], [.ref 73], rf_MM w m3)) (by decide +kernel) rfl trivial ?_
        obtain ⟨y5, m5, hc5, hg⟩ := rf_b_some hg
        refine rf_callv C rf_fit0 j_X1_toLong (ci := 1) (As := []) (rest := []) mw_X1_toLong (c_X1_toLong hc5) (by decide) rfl (by decide) lk_0_167 rfl rfl (Nat.le_of_ble_eq_true rfl) (by decide +kernel) ?_
        show rf_V 4 (rf_sh w) K 0 0 190 ([(0, .ref 55), (2, .int a2)], [.long y5], rf_MM w m5)
        refine rf_goto C 10 200 (by decide +kernel) ?_
        refine rf_seg C [(.l2i, 1)] (pc' := 201) (S' := ([(0, .ref 55), (2, .int a2)], [.int (Int64.toInt32 y5)], rf_MM w m5)) (by decide +kernel) rfl trivial ?_
        obtain rfl := Option.some.inj hg
        exact rf_iret C hE (by decide +kernel)
    · replace hg := (if_pos hc).symm.trans hg
      refine rf_seg C [(.iconst (-2147483648), 2)] (pc' := 178) (S' := ([(0, .ref 55), (2, .int a2)], [.int ((-2147483648))], rf_MM w m3)) (by decide +kernel) rfl trivial ?_
      obtain rfl := Option.some.inj hg
      exact rf_iret C hE (by decide +kernel)
theorem s_X0_lowestTerm_42_b {w : rf_w} {K : rf_K} {r : Int32 × rf_m} (C : rf_Ctx 0 cX0_lowestTerm 4 6 (rf_sh w) K) (hE : rf_End (some .int) K (rf_sh w) 0 0 (some (.int r.1)) (rf_MM w r.2)) {rec42 : Int32 → Int32 → rf_m → Option (Int32 × rf_m)} (hr42 : ∀ (a2 : Int32) (a3 : Int32) (m : rf_m), rec42 a2 a3 m = some r → rf_V 4 (rf_sh w) K 0 0 42 ([(0, .ref 55), (2, .int a2), (3, .int a3)], [], rf_MM w m)) (a2 : Int32) (a3 : Int32) (m : rf_m) (hg : g_X0_lowestTerm_42_b w rec42 a2 a3 m = some r) : rf_V 4 (rf_sh w) K 0 0 42 ([(0, .ref 55), (2, .int a2), (3, .int a3)], [], rf_MM w m) := by
  unfold g_X0_lowestTerm_42_b at hg
  refine rf_seg C [(.iload 3, 1), (.iconst 1000, 3)] (pc' := 46) (S' := ([(0, .ref 55), (2, .int a2), (3, .int a3)], [.int 1000, .int a3], rf_MM w m)) (by decide +kernel) rfl trivial ?_
  refine rf_icmp_ge C 64 110 (by decide +kernel) (fun hc => ?_) (fun hc => ?_)
  · replace hg := (if_pos hc).symm.trans hg
    refine rf_few [0, 1] rfl ?_
    exact s_X0_lowestTerm_110 C hE a2 m hg
  · replace hg := (if_neg hc).symm.trans hg
    refine rf_seg C [(.aload 0, 1), (.invokeinterface 0 15, 3), (.invokeinterface 1 0, 3)] (pc' := 56) (S' := ([(0, .ref 55), (2, .int a2), (3, .int a3)], [.int (m.1 71 0)], rf_MM w m)) (by decide +kernel) rfl trivial ?_
    refine rf_if_le C 54 110 (by decide +kernel) (fun hc => ?_) (fun hc => ?_)
    · replace hg := (if_pos hc).symm.trans hg
      refine rf_few [0, 1] rfl ?_
      exact s_X0_lowestTerm_110 C hE a2 m hg
    · replace hg := (if_neg hc).symm.trans hg
      refine rf_seg C [(.aload 0, 1), (.invokeinterface 0 16, 3), (.aload 0, 1), (.invokeinterface 0 14, 3), (.aload 0, 1), (.invokeinterface 0 15, 3), (.aload 0, 1), (.invokeinterface 0 17, 3), (.aload 0, 1), (.invokeinterface 0 18, 3)] (pc' := 79) (S' := ([(0, .ref 55), (2, .int a2), (3, .int a3)], [.ref 77, .ref 75, .ref 71, .ref 69, .ref 73], rf_MM w m)) (by decide +kernel) rfl trivial ?_
      obtain ⟨m0, hc0, hg⟩ := rf_bv_some hg
      refine rf_callv C rf_fit0 j_X1_setQuotient (ci := 1) (As := [.ref 69, .ref 71, .ref 75, .ref 77]) (rest := []) mw_X1_setQuotient (c_X1_setQuotient hc0) (by decide) rfl (by decide) lk_0_154 rfl rfl (Nat.le_of_ble_eq_true rfl) (by decide +kernel) ?_
      show rf_V 4 (rf_sh w) K 0 0 82 ([(0, .ref 55), (2, .int a2), (3, .int a3)], [], rf_MM w m0)
      refine rf_seg C [(.aload 0, 1), (.invokeinterface 0 14, 3), (.aload 0, 1), (.invokeinterface 0 15, 3)] (pc' := 90) (S' := ([(0, .ref 55), (2, .int a2), (3, .int a3)], [.ref 71, .ref 69], rf_MM w m0)) (by decide +kernel) rfl trivial ?_
      obtain ⟨m1, hc1, hg⟩ := rf_bv_some hg
      refine rf_callv C rf_fit0 j_X1_copyFrom (ci := 1) (As := [.ref 71]) (rest := []) mw_X1_copyFrom (c_X1_copyFrom hc1) (by decide) rfl (by decide) lk_0_142 rfl rfl (Nat.le_of_ble_eq_true rfl) (by decide +kernel) ?_
      show rf_V 4 (rf_sh w) K 0 0 93 ([(0, .ref 55), (2, .int a2), (3, .int a3)], [], rf_MM w m1)
      refine rf_seg C [(.aload 0, 1), (.invokeinterface 0 15, 3), (.aload 0, 1), (.invokeinterface 0 17, 3)] (pc' := 101) (S' := ([(0, .ref 55), (2, .int a2), (3, .int a3)], [.ref 75, .ref 71], rf_MM w m1)) (by decide +kernel) rfl trivial ?_
      obtain ⟨m2, hc2, hg⟩ := rf_bv_some hg
      refine rf_callv C rf_fit0 j_X1_copyFrom (ci := 1) (As := [.ref 75]) (rest := []) mw_X1_copyFrom (c_X1_copyFrom hc2) (by decide) rfl (by decide) lk_0_142 rfl rfl (Nat.le_of_ble_eq_true rfl) (by decide +kernel) ?_
      show rf_V 4 (rf_sh w) K 0 0 104 ([(0, .ref 55), (2, .int a2), (3, .int a3)], [], rf_MM w m2)
      refine rf_seg C [(.iinc 3 1, 3)] (pc' := 107) (S' := ([(3, .int (a3 + 1)), (0, .ref 55), (2, .int a2)], [], rf_MM w m2)) (by decide +kernel) rfl trivial ?_
      refine rf_goto C (-65) 42 (by decide +kernel) ?_
      refine rf_few [1, 2, 0] rfl ?_
      exact hr42 a2 (a3 + 1) m2 hg
theorem s_X0_lowestTerm_42 {w : rf_w} {K : rf_K} {r : Int32 × rf_m} (C : rf_Ctx 0 cX0_lowestTerm 4 6 (rf_sh w) K) (hE : rf_End (some .int) K (rf_sh w) 0 0 (some (.int r.1)) (rf_MM w r.2)) (n : Nat) : ∀ (a2 : Int32) (a3 : Int32) (m : rf_m), g_X0_lowestTerm_42 w n a2 a3 m = some r → rf_V 4 (rf_sh w) K 0 0 42 ([(0, .ref 55), (2, .int a2), (3, .int a3)], [], rf_MM w m) := by
  induction n with
  | zero => intro a2 a3 m hg; cases hg
  | succ n ih => intro a2 a3 m hg; exact s_X0_lowestTerm_42_b C hE ih a2 a3 m hg
theorem c_X0_lowestTerm {w : rf_w} {m : rf_m} {a1 : Int32} {a2 : Int32} {r : Int32 × rf_m} (hg : g_X0_lowestTerm w m a1 a2 = some r) : rf_Con j_X0_lowestTerm 6 (rf_sh w) [.ref 55, .int a1, .int a2] (rf_MM w m) (some (.int r.1)) (rf_MM w r.2) := by
  refine rf_con j_X0_lowestTerm 6 ⟨by decide +kernel, rfl, Nat.le_of_ble_eq_true rfl⟩ (fun K C hE => ?_)
  unfold g_X0_lowestTerm at hg
  show rf_V 4 (rf_sh w) K 0 0 0 ([(0, .ref 55), (1, .int a1), (2, .int a2)], [], rf_MM w m)
  refine rf_seg C [(.aload 0, 1), (.iload 1, 1)] (pc' := 2) (S' := ([(0, .ref 55), (1, .int a1), (2, .int a2)], [.int a1, .ref 55], rf_MM w m)) (by decide +kernel) rfl trivial ?_
  obtain ⟨y0, m0, hc0, hg⟩ := rf_b_some hg
  refine rf_callv C rf_fit0 j_X0_layChange (ci := 0) (As := [.int a1]) (rest := []) mw_X0_layChange (c_X0_layChange hc0) (by decide) rfl (by decide) lk_0_171 rfl rfl (Nat.le_of_ble_eq_true rfl) (by decide +kernel) ?_
  show rf_V 4 (rf_sh w) K 0 0 5 ([(0, .ref 55), (1, .int a1), (2, .int a2)], [.int y0], rf_MM w m0)
  refine rf_if_ne C 6 11 (by decide +kernel) (fun hc => ?_) (fun hc => ?_)
  · replace hg := (if_neg hc).symm.trans hg
    refine rf_seg C [(.aload 0, 1), (.invokeinterface 0 14, 3), (.aload 0, 1), (.invokeinterface 0 13, 3)] (pc' := 19) (S' := ([(0, .ref 55), (1, .int a1), (2, .int a2)], [.ref 67, .ref 69], rf_MM w m0)) (by decide +kernel) rfl trivial ?_
    obtain ⟨m1, hc1, hg⟩ := rf_bv_some hg
    refine rf_callv C rf_fit0 j_X1_copyFrom (ci := 1) (As := [.ref 67]) (rest := []) mw_X1_copyFrom (c_X1_copyFrom hc1) (by decide) rfl (by decide) lk_0_142 rfl rfl (Nat.le_of_ble_eq_true rfl) (by decide +kernel) ?_
    show rf_V 4 (rf_sh w) K 0 0 22 ([(0, .ref 55), (1, .int a1), (2, .int a2)], [], rf_MM w m1)
    refine rf_seg C [(.aload 0, 1), (.invokeinterface 0 14, 3)] (pc' := 26) (S' := ([(0, .ref 55), (1, .int a1), (2, .int a2)], [.ref 69], rf_MM w m1)) (by decide +kernel) rfl trivial ?_
    obtain ⟨m2, hc2, hg⟩ := rf_bv_some hg
    refine rf_callv C rf_fit0 j_X1_dropSign (ci := 1) (As := []) (rest := []) mw_X1_dropSign (c_X1_dropSign hc2) (by decide) rfl (by decide) lk_0_176 rfl rfl (Nat.le_of_ble_eq_true rfl) (by decide +kernel) ?_
    show rf_V 4 (rf_sh w) K 0 0 29 ([(0, .ref 55), (1, .int a1), (2, .int a2)], [], rf_MM w m2)
    refine rf_seg C [(.aload 0, 1), (.invokeinterface 0 15, 3), (.aload 0, 1), (.invokeinterface 0 11, 3)] (pc' := 37) (S' := ([(0, .ref 55), (1, .int a1), (2, .int a2)], [.ref 63, .ref 71], rf_MM w m2)) (by decide +kernel) rfl trivial ?_
    obtain ⟨m3, hc3, hg⟩ := rf_bv_some hg
    refine rf_callv C rf_fit0 j_X1_copyFrom (ci := 1) (As := [.ref 63]) (rest := []) mw_X1_copyFrom (c_X1_copyFrom hc3) (by decide) rfl (by decide) lk_0_142 rfl rfl (Nat.le_of_ble_eq_true rfl) (by decide +kernel) ?_
    show rf_V 4 (rf_sh w) K 0 0 40 ([(0, .ref 55), (1, .int a1), (2, .int a2)], [], rf_MM w m3)
    refine rf_seg C [(.iconst 0, 1), (.istore 3, 1)] (pc' := 42) (S' := ([(3, .int 0), (0, .ref 55), (1, .int a1), (2, .int a2)], [], rf_MM w m3)) (by decide +kernel) rfl trivial ?_
    refine rf_few [1, 3, 0] rfl ?_
    exact s_X0_lowestTerm_42 C hE rf_fuel a2 0 m3 hg
  · replace hg := (if_pos hc).symm.trans hg
    refine rf_seg C [(.iconst (-2147483648), 2)] (pc' := 10) (S' := ([(0, .ref 55), (1, .int a1), (2, .int a2)], [.int ((-2147483648))], rf_MM w m0)) (by decide +kernel) rfl trivial ?_
    obtain rfl := Option.some.inj hg
    exact rf_iret C hE (by decide +kernel)
-- X2_isSuspect
abbrev j_X2_isSuspect : rf_J := (2, yX2_isSuspect, cX2_isSuspect, 3, (some .boolean))
theorem mw_X2_isSuspect : rf_mv j_X2_isSuspect (rf_R 2) 1 := ⟨⟨rf_mem 83 (by decide +kernel), rf_mem 83 (by decide +kernel), rf_mem 1 (by decide +kernel), rf_mem 83 (by decide +kernel)⟩, by decide +kernel, by decide⟩
def g_X2_isSuspect_2_b (w : rf_w) (rec2 : Int32 → Int32 → rf_m → Option (Int32 × rf_m)) (a1 : Int32) (a2 : Int32) (m : rf_m) : Option (Int32 × rf_m) := (if (m.1 184 1) ≤ a2 then some (0, m) else rf_g (rf_in a2 12) ((if (m.1 186 (Int32.toNatClampNeg a2)) = a1 then some (1, m) else rec2 a1 (a2 + 1) m)))
def g_X2_isSuspect_2 (w : rf_w) : Nat → Int32 → Int32 → rf_m → Option (Int32 × rf_m)
  | 0, _, _, _ => none
  | n + 1, a1, a2, m => g_X2_isSuspect_2_b w (g_X2_isSuspect_2 w n) a1 a2 m
def g_X2_isSuspect (w : rf_w) (m : rf_m) (a1 : Int32) : Option (Int32 × rf_m) := g_X2_isSuspect_2 w rf_fuel a1 0 m
theorem s_X2_isSuspect_2_b {w : rf_w} {K : rf_K} {r : Int32 × rf_m} (C : rf_Ctx 2 cX2_isSuspect 3 1 (rf_sh w) K) (hE : rf_End (some .boolean) K (rf_sh w) 0 0 (some (.int r.1)) (rf_MM w r.2)) {rec2 : Int32 → Int32 → rf_m → Option (Int32 × rf_m)} (hr2 : ∀ (a1 : Int32) (a2 : Int32) (m : rf_m), rec2 a1 a2 m = some r → rf_V 3 (rf_sh w) K 0 0 2 ([(0, .ref 184), (1, .int a1), (2, .int a2)], [], rf_MM w m)) (a1 : Int32) (a2 : Int32) (m : rf_m) (hg : g_X2_isSuspect_2_b w rec2 a1 a2 m = some r) : rf_V 3 (rf_sh w) K 0 0 2 ([(0, .ref 184), (1, .int a1), (2, .int a2)], [], rf_MM w m) := by
  unfold g_X2_isSuspect_2_b at hg
  refine rf_seg C [(.iload 2, 1), (.aload 0, 1), (.invokeinterface 2 1, 3)] (pc' := 7) (S' := ([(0, .ref 184), (1, .int a1), (2, .int a2)], [.int (m.1 184 1), .int a2], rf_MM w m)) (by decide +kernel) rfl trivial ?_
  refine rf_icmp_ge C 21 28 (by decide +kernel) (fun hc => ?_) (fun hc => ?_)
  · replace hg := (if_pos hc).symm.trans hg
    refine rf_seg C [(.iconst 0, 1)] (pc' := 29) (S' := ([(0, .ref 184), (1, .int a1), (2, .int a2)], [.int 0], rf_MM w m)) (by decide +kernel) rfl trivial ?_
    obtain rfl := Option.some.inj hg
    exact rf_zret C hE (by decide) (by decide +kernel)
  · replace hg := (if_neg hc).symm.trans hg
    obtain ⟨q0, hg⟩ := rf_g_some hg
    refine rf_seg C [(.aload 0, 1), (.invokeinterface 2 6, 3), (.iload 2, 1), (.iaload, 1), (.iload 1, 1)] (pc' := 17) (S' := ([(0, .ref 184), (1, .int a1), (2, .int a2)], [.int a1, .int (m.1 186 (Int32.toNatClampNeg a2))], rf_MM w m)) (by decide +kernel) rfl (rf_in_of q0) ?_
    refine rf_icmp_ne C 5 22 (by decide +kernel) (fun hc => ?_) (fun hc => ?_)
    · replace hg := (if_neg hc).symm.trans hg
      refine rf_seg C [(.iinc 2 1, 3)] (pc' := 25) (S' := ([(2, .int (a2 + 1)), (0, .ref 184), (1, .int a1)], [], rf_MM w m)) (by decide +kernel) rfl trivial ?_
      refine rf_goto C (-23) 2 (by decide +kernel) ?_
      refine rf_few [1, 2, 0] rfl ?_
      exact hr2 a1 (a2 + 1) m hg
    · replace hg := (if_pos hc).symm.trans hg
      refine rf_seg C [(.iconst 1, 1)] (pc' := 21) (S' := ([(0, .ref 184), (1, .int a1), (2, .int a2)], [.int 1], rf_MM w m)) (by decide +kernel) rfl trivial ?_
      obtain rfl := Option.some.inj hg
      exact rf_zret C hE (by decide) (by decide +kernel)
theorem s_X2_isSuspect_2 {w : rf_w} {K : rf_K} {r : Int32 × rf_m} (C : rf_Ctx 2 cX2_isSuspect 3 1 (rf_sh w) K) (hE : rf_End (some .boolean) K (rf_sh w) 0 0 (some (.int r.1)) (rf_MM w r.2)) (n : Nat) : ∀ (a1 : Int32) (a2 : Int32) (m : rf_m), g_X2_isSuspect_2 w n a1 a2 m = some r → rf_V 3 (rf_sh w) K 0 0 2 ([(0, .ref 184), (1, .int a1), (2, .int a2)], [], rf_MM w m) := by
  induction n with
  | zero => intro a1 a2 m hg; cases hg
  | succ n ih => intro a1 a2 m hg; exact s_X2_isSuspect_2_b C hE ih a1 a2 m hg
theorem c_X2_isSuspect {w : rf_w} {m : rf_m} {a1 : Int32} {r : Int32 × rf_m} (hg : g_X2_isSuspect w m a1 = some r) : rf_Con j_X2_isSuspect 1 (rf_sh w) [.ref 184, .int a1] (rf_MM w m) (some (.int r.1)) (rf_MM w r.2) := by
  refine rf_con j_X2_isSuspect 1 ⟨by decide +kernel, rfl, Nat.le_of_ble_eq_true rfl⟩ (fun K C hE => ?_)
  unfold g_X2_isSuspect at hg
  show rf_V 3 (rf_sh w) K 0 0 0 ([(0, .ref 184), (1, .int a1)], [], rf_MM w m)
  refine rf_seg C [(.iconst 0, 1), (.istore 2, 1)] (pc' := 2) (S' := ([(2, .int 0), (0, .ref 184), (1, .int a1)], [], rf_MM w m)) (by decide +kernel) rfl trivial ?_
  refine rf_few [1, 2, 0] rfl ?_
  exact s_X2_isSuspect_2 C hE rf_fuel a1 0 m hg
-- X2_addSuspect
abbrev j_X2_addSuspect : rf_J := (2, yX2_addSuspect, cX2_addSuspect, 2, (some .int))
theorem mw_X2_addSuspect : rf_mv j_X2_addSuspect (rf_R 2) 1 := ⟨⟨rf_mem 84 (by decide +kernel), rf_mem 84 (by decide +kernel), rf_mem 1 (by decide +kernel), rf_mem 84 (by decide +kernel)⟩, by decide +kernel, by decide⟩
def g_X2_addSuspect (w : rf_w) (m : rf_m) (a1 : Int32) : Option (Int32 × rf_m) := rf_g (rf_in (m.1 184 1) 12) (some ((rf_i (rf_i m 186 (Int32.toNatClampNeg (m.1 184 1)) a1) 184 1 (((rf_i m 186 (Int32.toNatClampNeg (m.1 184 1)) a1).1 184 1) + 1)).1 184 1, rf_i (rf_i m 186 (Int32.toNatClampNeg (m.1 184 1)) a1) 184 1 (((rf_i m 186 (Int32.toNatClampNeg (m.1 184 1)) a1).1 184 1) + 1)))
theorem c_X2_addSuspect {w : rf_w} {m : rf_m} {a1 : Int32} {r : Int32 × rf_m} (hg : g_X2_addSuspect w m a1 = some r) : rf_Con j_X2_addSuspect 1 (rf_sh w) [.ref 184, .int a1] (rf_MM w m) (some (.int r.1)) (rf_MM w r.2) := by
  refine rf_con j_X2_addSuspect 1 ⟨by decide +kernel, rfl, Nat.le_of_ble_eq_true rfl⟩ (fun K C hE => ?_)
  unfold g_X2_addSuspect at hg
  show rf_V 2 (rf_sh w) K 0 0 0 ([(0, .ref 184), (1, .int a1)], [], rf_MM w m)
  obtain ⟨q0, hg⟩ := rf_g_some hg
  refine rf_seg C [(.aload 0, 1), (.invokeinterface 2 6, 3), (.aload 0, 1), (.invokeinterface 2 1, 3), (.iload 1, 1), (.iastore, 1), (.aload 0, 1), (.dup, 1), (.invokeinterface 2 1, 3), (.iconst 1, 1), (.iadd, 1), (.multianewarray 2 1, 3), (.aload 0, 1), (.invokeinterface 2 1, 3)] (pc' := 24) (S' := ([(0, .ref 184), (1, .int a1)], [.int ((rf_i (rf_i m 186 (Int32.toNatClampNeg (m.1 184 1)) a1) 184 1 (((rf_i m 186 (Int32.toNatClampNeg (m.1 184 1)) a1).1 184 1) + 1)).1 184 1)], rf_MM w (rf_i (rf_i m 186 (Int32.toNatClampNeg (m.1 184 1)) a1) 184 1 (((rf_i m 186 (Int32.toNatClampNeg (m.1 184 1)) a1).1 184 1) + 1)))) (by decide +kernel) rfl (rf_in_of q0) ?_
  obtain rfl := Option.some.inj hg
  exact rf_iret C hE (by decide +kernel)
-- X2_pickNext
abbrev j_X2_pickNext : rf_J := (2, yX2_pickNext, cX2_pickNext, 4, (some .boolean))
theorem mw_X2_pickNext : rf_mv j_X2_pickNext (rf_R 2) 1 := ⟨⟨rf_mem 86 (by decide +kernel), rf_mem 86 (by decide +kernel), rf_mem 1 (by decide +kernel), rf_mem 86 (by decide +kernel)⟩, by decide +kernel, by decide⟩
def g_X2_pickNext_39_b (w : rf_w) (rec39 : Int32 → Int32 → rf_m → Option (Int32 × rf_m)) (a1 : Int32) (a3 : Int32) (m : rf_m) : Option (Int32 × rf_m) := (if a1 ≤ a3 then some (1, m) else rf_g (rf_in (a3 - 1) 12) (rf_g (rf_in a3 12) (rec39 a1 (a3 + 1) (rf_i m 188 (Int32.toNatClampNeg a3) ((m.1 188 (Int32.toNatClampNeg (a3 - 1))) + 1)))))
def g_X2_pickNext_39 (w : rf_w) : Nat → Int32 → Int32 → rf_m → Option (Int32 × rf_m)
  | 0, _, _, _ => none
  | n + 1, a1, a3, m => g_X2_pickNext_39_b w (g_X2_pickNext_39 w n) a1 a3 m
def g_X2_pickNext_4_b (w : rf_w) (rec4 : Int32 → Int32 → rf_m → Option (Int32 × rf_m)) (a1 : Int32) (a2 : Int32) (m : rf_m) : Option (Int32 × rf_m) := (if a2 < 0 then some (0, m) else rf_g (rf_in a2 12) ((if (((m.1 184 8) - a1) + a2) ≤ (m.1 188 (Int32.toNatClampNeg a2)) then rec4 a1 (a2 + (-1)) m else rf_g (rf_in a2 12) (rf_g (rf_in a2 12) (g_X2_pickNext_39 w rf_fuel a1 (a2 + 1) (rf_i m 188 (Int32.toNatClampNeg a2) ((m.1 188 (Int32.toNatClampNeg a2)) + 1)))))))
def g_X2_pickNext_4 (w : rf_w) : Nat → Int32 → Int32 → rf_m → Option (Int32 × rf_m)
  | 0, _, _, _ => none
  | n + 1, a1, a2, m => g_X2_pickNext_4_b w (g_X2_pickNext_4 w n) a1 a2 m
def g_X2_pickNext (w : rf_w) (m : rf_m) (a1 : Int32) : Option (Int32 × rf_m) := g_X2_pickNext_4 w rf_fuel a1 (a1 - 1) m
theorem s_X2_pickNext_39_b {w : rf_w} {K : rf_K} {r : Int32 × rf_m} (C : rf_Ctx 2 cX2_pickNext 4 1 (rf_sh w) K) (hE : rf_End (some .boolean) K (rf_sh w) 0 0 (some (.int r.1)) (rf_MM w r.2)) {rec39 : Int32 → Int32 → rf_m → Option (Int32 × rf_m)} (hr39 : ∀ (a1 : Int32) (a3 : Int32) (m : rf_m), rec39 a1 a3 m = some r → rf_V 4 (rf_sh w) K 0 0 39 ([(0, .ref 184), (1, .int a1), (3, .int a3)], [], rf_MM w m)) (a1 : Int32) (a3 : Int32) (m : rf_m) (hg : g_X2_pickNext_39_b w rec39 a1 a3 m = some r) : rf_V 4 (rf_sh w) K 0 0 39 ([(0, .ref 184), (1, .int a1), (3, .int a3)], [], rf_MM w m) := by
  unfold g_X2_pickNext_39_b at hg
  refine rf_seg C [(.iload 3, 1), (.iload 1, 1)] (pc' := 41) (S' := ([(0, .ref 184), (1, .int a1), (3, .int a3)], [.int a1, .int a3], rf_MM w m)) (by decide +kernel) rfl trivial ?_
  refine rf_icmp_ge C 25 66 (by decide +kernel) (fun hc => ?_) (fun hc => ?_)
  · replace hg := (if_pos hc).symm.trans hg
    refine rf_seg C [(.iconst 1, 1)] (pc' := 67) (S' := ([(0, .ref 184), (1, .int a1), (3, .int a3)], [.int 1], rf_MM w m)) (by decide +kernel) rfl trivial ?_
    obtain rfl := Option.some.inj hg
    exact rf_zret C hE (by decide) (by decide +kernel)
  · replace hg := (if_neg hc).symm.trans hg
    obtain ⟨q0, hg⟩ := rf_g_some hg
    obtain ⟨q1, hg⟩ := rf_g_some hg
    refine rf_seg C [(.aload 0, 1), (.invokeinterface 2 9, 3), (.iload 3, 1), (.aload 0, 1), (.invokeinterface 2 9, 3), (.iload 3, 1), (.iconst 1, 1), (.isub, 1), (.iaload, 1), (.iconst 1, 1), (.iadd, 1), (.iastore, 1), (.iinc 3 1, 3)] (pc' := 63) (S' := ([(3, .int (a3 + 1)), (0, .ref 184), (1, .int a1)], [], rf_MM w (rf_i m 188 (Int32.toNatClampNeg a3) ((m.1 188 (Int32.toNatClampNeg (a3 - 1))) + 1)))) (by decide +kernel) rfl (by exact ⟨(rf_in_of q0), (rf_in_of q1)⟩) ?_
    refine rf_goto C (-24) 39 (by decide +kernel) ?_
    refine rf_few [1, 2, 0] rfl ?_
    exact hr39 a1 (a3 + 1) (rf_i m 188 (Int32.toNatClampNeg a3) ((m.1 188 (Int32.toNatClampNeg (a3 - 1))) + 1)) hg
theorem s_X2_pickNext_39 {w : rf_w} {K : rf_K} {r : Int32 × rf_m} (C : rf_Ctx 2 cX2_pickNext 4 1 (rf_sh w) K) (hE : rf_End (some .boolean) K (rf_sh w) 0 0 (some (.int r.1)) (rf_MM w r.2)) (n : Nat) : ∀ (a1 : Int32) (a3 : Int32) (m : rf_m), g_X2_pickNext_39 w n a1 a3 m = some r → rf_V 4 (rf_sh w) K 0 0 39 ([(0, .ref 184), (1, .int a1), (3, .int a3)], [], rf_MM w m) := by
  induction n with
  | zero => intro a1 a3 m hg; cases hg
  | succ n ih => intro a1 a3 m hg; exact s_X2_pickNext_39_b C hE ih a1 a3 m hg
theorem s_X2_pickNext_4_b {w : rf_w} {K : rf_K} {r : Int32 × rf_m} (C : rf_Ctx 2 cX2_pickNext 4 1 (rf_sh w) K) (hE : rf_End (some .boolean) K (rf_sh w) 0 0 (some (.int r.1)) (rf_MM w r.2)) {rec4 : Int32 → Int32 → rf_m → Option (Int32 × rf_m)} (hr4 : ∀ (a1 : Int32) (a2 : Int32) (m : rf_m), rec4 a1 a2 m = some r → rf_V 4 (rf_sh w) K 0 0 4 ([(0, .ref 184), (1, .int a1), (2, .int a2)], [], rf_MM w m)) (a1 : Int32) (a2 : Int32) (m : rf_m) (hg : g_X2_pickNext_4_b w rec4 a1 a2 m = some r) : rf_V 4 (rf_sh w) K 0 0 4 ([(0, .ref 184), (1, .int a1), (2, .int a2)], [], rf_MM w m) := by
  unfold g_X2_pickNext_4_b at hg
  refine rf_seg C [(.iload 2, 1)] (pc' := 5) (S' := ([(0, .ref 184), (1, .int a1), (2, .int a2)], [.int a2], rf_MM w m)) (by decide +kernel) rfl trivial ?_
  refine rf_if_lt C 69 74 (by decide +kernel) (fun hc => ?_) (fun hc => ?_)
  · replace hg := (if_pos hc).symm.trans hg
    refine rf_seg C [(.iconst 0, 1)] (pc' := 75) (S' := ([(0, .ref 184), (1, .int a1), (2, .int a2)], [.int 0], rf_MM w m)) (by decide +kernel) rfl trivial ?_
    obtain rfl := Option.some.inj hg
    exact rf_zret C hE (by decide) (by decide +kernel)
  · replace hg := (if_neg hc).symm.trans hg
    obtain ⟨q0, hg⟩ := rf_g_some hg
    refine rf_seg C [(.aload 0, 1), (.invokeinterface 2 9, 3), (.iload 2, 1), (.iaload, 1), (.aload 0, 1), (.invokeinterface 2 8, 3), (.iload 1, 1), (.isub, 1), (.iload 2, 1), (.iadd, 1)] (pc' := 22) (S' := ([(0, .ref 184), (1, .int a1), (2, .int a2)], [.int (((m.1 184 8) - a1) + a2), .int (m.1 188 (Int32.toNatClampNeg a2))], rf_MM w m)) (by decide +kernel) rfl (rf_in_of q0) ?_
    refine rf_icmp_ge C 46 68 (by decide +kernel) (fun hc => ?_) (fun hc => ?_)
    · replace hg := (if_pos hc).symm.trans hg
      refine rf_seg C [(.iinc 2 (-1), 3)] (pc' := 71) (S' := ([(2, .int (a2 + (-1))), (0, .ref 184), (1, .int a1)], [], rf_MM w m)) (by decide +kernel) rfl trivial ?_
      refine rf_goto C (-67) 4 (by decide +kernel) ?_
      refine rf_few [1, 2, 0] rfl ?_
      exact hr4 a1 (a2 + (-1)) m hg
    · replace hg := (if_neg hc).symm.trans hg
      obtain ⟨q1, hg⟩ := rf_g_some hg
      obtain ⟨q2, hg⟩ := rf_g_some hg
      refine rf_seg C [(.aload 0, 1), (.invokeinterface 2 9, 3), (.iload 2, 1), (.dup2, 1), (.iaload, 1), (.iconst 1, 1), (.iadd, 1), (.iastore, 1), (.iload 2, 1), (.iconst 1, 1), (.iadd, 1), (.istore 3, 1)] (pc' := 39) (S' := ([(3, .int (a2 + 1)), (0, .ref 184), (1, .int a1), (2, .int a2)], [], rf_MM w (rf_i m 188 (Int32.toNatClampNeg a2) ((m.1 188 (Int32.toNatClampNeg a2)) + 1)))) (by decide +kernel) rfl (by exact ⟨(rf_in_of q1), (rf_in_of q2)⟩) ?_
      refine rf_few [1, 2, 0] rfl ?_
      exact s_X2_pickNext_39 C hE rf_fuel a1 (a2 + 1) (rf_i m 188 (Int32.toNatClampNeg a2) ((m.1 188 (Int32.toNatClampNeg a2)) + 1)) hg
theorem s_X2_pickNext_4 {w : rf_w} {K : rf_K} {r : Int32 × rf_m} (C : rf_Ctx 2 cX2_pickNext 4 1 (rf_sh w) K) (hE : rf_End (some .boolean) K (rf_sh w) 0 0 (some (.int r.1)) (rf_MM w r.2)) (n : Nat) : ∀ (a1 : Int32) (a2 : Int32) (m : rf_m), g_X2_pickNext_4 w n a1 a2 m = some r → rf_V 4 (rf_sh w) K 0 0 4 ([(0, .ref 184), (1, .int a1), (2, .int a2)], [], rf_MM w m) := by
  induction n with
  | zero => intro a1 a2 m hg; cases hg
  | succ n ih => intro a1 a2 m hg; exact s_X2_pickNext_4_b C hE ih a1 a2 m hg
theorem c_X2_pickNext {w : rf_w} {m : rf_m} {a1 : Int32} {r : Int32 × rf_m} (hg : g_X2_pickNext w m a1 = some r) : rf_Con j_X2_pickNext 1 (rf_sh w) [.ref 184, .int a1] (rf_MM w m) (some (.int r.1)) (rf_MM w r.2) := by
  refine rf_con j_X2_pickNext 1 ⟨by decide +kernel, rfl, Nat.le_of_ble_eq_true rfl⟩ (fun K C hE => ?_)
  unfold g_X2_pickNext at hg
  show rf_V 4 (rf_sh w) K 0 0 0 ([(0, .ref 184), (1, .int a1)], [], rf_MM w m)
  refine rf_seg C [(.iload 1, 1), (.iconst 1, 1), (.isub, 1), (.istore 2, 1)] (pc' := 4) (S' := ([(2, .int (a1 - 1)), (0, .ref 184), (1, .int a1)], [], rf_MM w m)) (by decide +kernel) rfl trivial ?_
  refine rf_few [1, 2, 0] rfl ?_
  exact s_X2_pickNext_4 C hE rf_fuel a1 (a1 - 1) m hg
-- X3_factOf
abbrev j_X3_factOf : rf_J := (3, yX3_factOf, cX3_factOf, 3, (some .int))
theorem mw_X3_factOf : rf_mv j_X3_factOf (rf_R 3) 2 := ⟨⟨rf_mem 25 (by decide +kernel), rf_mem 25 (by decide +kernel), rf_mem 0 (by decide +kernel), rf_mem 25 (by decide +kernel)⟩, by decide +kernel, by decide⟩
def g_X3_factOf (w : rf_w) (m : rf_m) (a1 : Int32) (a2 : Int32) : Option (Int32 × rf_m) := rf_g (rf_in ((a1 * 9) + a2) 10800) (some (m.1 32 (Int32.toNatClampNeg ((a1 * 9) + a2)), m))
theorem c_X3_factOf {w : rf_w} {m : rf_m} {a1 : Int32} {a2 : Int32} {r : Int32 × rf_m} (hg : g_X3_factOf w m a1 a2 = some r) : rf_Con j_X3_factOf 1 (rf_sh w) [.ref 26, .int a1, .int a2] (rf_MM w m) (some (.int r.1)) (rf_MM w r.2) := by
  refine rf_con j_X3_factOf 1 ⟨by decide +kernel, rfl, Nat.le_of_ble_eq_true rfl⟩ (fun K C hE => ?_)
  unfold g_X3_factOf at hg
  show rf_V 3 (rf_sh w) K 0 0 0 ([(0, .ref 26), (1, .int a1), (2, .int a2)], [], rf_MM w m)
  obtain ⟨q0, hg⟩ := rf_g_some hg
  refine rf_seg C [(.aload 0, 1), (.invokeinterface 3 9, 3), (.iload 1, 1), (.iconst 9, 2), (.imul, 1), (.iload 2, 1), (.iadd, 1), (.iaload, 1)] (pc' := 11) (S' := ([(0, .ref 26), (1, .int a1), (2, .int a2)], [.int (m.1 32 (Int32.toNatClampNeg ((a1 * 9) + a2)))], rf_MM w m)) (by decide +kernel) rfl (rf_in_of q0) ?_
  obtain rfl := Option.some.inj hg
  exact rf_iret C hE (by decide +kernel)
-- X3_tallyOf
abbrev j_X3_tallyOf : rf_J := (3, yX3_tallyOf, cX3_tallyOf, 3, (some .int))
theorem mw_X3_tallyOf : rf_mv j_X3_tallyOf (rf_R 3) 2 := ⟨⟨rf_mem 31 (by decide +kernel), rf_mem 31 (by decide +kernel), rf_mem 0 (by decide +kernel), rf_mem 31 (by decide +kernel)⟩, by decide +kernel, by decide⟩
def g_X3_tallyOf (w : rf_w) (m : rf_m) (a1 : Int32) (a2 : Int32) : Option (Int32 × rf_m) := (if a2 = 0 then rf_g (rf_in a1 80) (some (m.1 31 (Int32.toNatClampNeg a1), m)) else rf_g (rf_in ((a1 * 9) + a2) 720) (some (m.1 34 (Int32.toNatClampNeg ((a1 * 9) + a2)), m)))
theorem c_X3_tallyOf {w : rf_w} {m : rf_m} {a1 : Int32} {a2 : Int32} {r : Int32 × rf_m} (hg : g_X3_tallyOf w m a1 a2 = some r) : rf_Con j_X3_tallyOf 1 (rf_sh w) [.ref 26, .int a1, .int a2] (rf_MM w m) (some (.int r.1)) (rf_MM w r.2) := by
  refine rf_con j_X3_tallyOf 1 ⟨by decide +kernel, rfl, Nat.le_of_ble_eq_true rfl⟩ (fun K C hE => ?_)
  unfold g_X3_tallyOf at hg
  show rf_V 3 (rf_sh w) K 0 0 0 ([(0, .ref 26), (1, .int a1), (2, .int a2)], [], rf_MM w m)
  refine rf_seg C [(.iload 2, 1)] (pc' := 1) (S' := ([(0, .ref 26), (1, .int a1), (2, .int a2)], [.int a2], rf_MM w m)) (by decide +kernel) rfl trivial ?_
  refine rf_if_ne C 12 13 (by decide +kernel) (fun hc => ?_) (fun hc => ?_)
  · replace hg := (if_neg hc).symm.trans hg
    obtain ⟨q0, hg⟩ := rf_g_some hg
    refine rf_seg C [(.aload 0, 1), (.invokeinterface 3 11, 3), (.iload 1, 1), (.iconst 9, 2), (.imul, 1), (.iload 2, 1), (.iadd, 1), (.iaload, 1)] (pc' := 24) (S' := ([(0, .ref 26), (1, .int a1), (2, .int a2)], [.int (m.1 34 (Int32.toNatClampNeg ((a1 * 9) + a2)))], rf_MM w m)) (by decide +kernel) rfl (rf_in_of q0) ?_
    obtain rfl := Option.some.inj hg
    exact rf_iret C hE (by decide +kernel)
  · replace hg := (if_pos hc).symm.trans hg
    obtain ⟨q1, hg⟩ := rf_g_some hg
    refine rf_seg C [(.aload 0, 1), (.invokeinterface 3 4, 3), (.iload 1, 1), (.iaload, 1)] (pc' := 10) (S' := ([(0, .ref 26), (1, .int a1), (2, .int a2)], [.int (m.1 31 (Int32.toNatClampNeg a1))], rf_MM w m)) (by decide +kernel) rfl (rf_in_of q1) ?_
    refine rf_goto C 14 24 (by decide +kernel) ?_
    obtain rfl := Option.some.inj hg
    exact rf_iret C hE (by decide +kernel)
-- X2_strikesOut
abbrev j_X2_strikesOut : rf_J := (2, yX2_strikesOut, cX2_strikesOut, 4, (some .boolean))
theorem mw_X2_strikesOut : rf_mv j_X2_strikesOut (rf_R 2) 1 := ⟨⟨rf_mem 85 (by decide +kernel), rf_mem 85 (by decide +kernel), rf_mem 1 (by decide +kernel), rf_mem 85 (by decide +kernel)⟩, by decide +kernel, by decide⟩
def g_X2_strikesOut_135_b (w : rf_w) (rec135 : Int32 → rf_m → Option (Int32 × rf_m)) (a2 : Int32) (m : rf_m) : Option (Int32 × rf_m) := (if (m.1 184 8) ≤ a2 then some (1, m) else rf_g (rf_in a2 12) (rf_b (g_X3_factOf w m (m.1 187 (Int32.toNatClampNeg a2)) 0) fun y1 m1 => rf_g (rf_in y1 80) ((if (0 : Int32) < (m1.1 191 (Int32.toNatClampNeg y1)) then rf_g (rf_in y1 80) (rf_g (rf_in y1 80) (rf_g (rf_nz (m1.1 191 (Int32.toNatClampNeg y1))) (rf_g (rf_in y1 80) (rec135 (a2 + 1) (rf_i m1 192 (Int32.toNatClampNeg y1) ((m1.1 190 (Int32.toNatClampNeg y1)) / (m1.1 191 (Int32.toNatClampNeg y1)))))))) else some (0, m1)))))
def g_X2_strikesOut_135 (w : rf_w) : Nat → Int32 → rf_m → Option (Int32 × rf_m)
  | 0, _, _ => none
  | n + 1, a2, m => g_X2_strikesOut_135_b w (g_X2_strikesOut_135 w n) a2 m
def g_X2_strikesOut_64_b (w : rf_w) (rec64 : Int32 → Int32 → rf_m → Option (Int32 × rf_m)) (a1 : Int32) (a2 : Int32) (m : rf_m) : Option (Int32 × rf_m) := (if a1 ≤ a2 then g_X2_strikesOut_135 w rf_fuel 0 m else rf_g (rf_in a2 12) (rf_g (rf_in (m.1 188 (Int32.toNatClampNeg a2)) 12) (rf_b (g_X3_factOf w m (m.1 187 (Int32.toNatClampNeg (m.1 188 (Int32.toNatClampNeg a2)))) 0) fun y2 m2 => rf_g (rf_in y2 80) (rf_g (rf_in a2 12) (rf_g (rf_in (m2.1 188 (Int32.toNatClampNeg a2)) 12) (rf_b (g_X3_factOf w m2 (m2.1 187 (Int32.toNatClampNeg (m2.1 188 (Int32.toNatClampNeg a2)))) 1) fun y6 m6 => rf_g (rf_in y2 80) (rf_g (rf_in y2 80) (rf_g (rf_in y2 80) (rec64 a1 (a2 + 1) (rf_i (rf_i m6 190 (Int32.toNatClampNeg y2) ((m2.1 190 (Int32.toNatClampNeg y2)) - y6)) 191 (Int32.toNatClampNeg y2) (((rf_i m6 190 (Int32.toNatClampNeg y2) ((m2.1 190 (Int32.toNatClampNeg y2)) - y6)).1 191 (Int32.toNatClampNeg y2)) - 1)))))))))))
def g_X2_strikesOut_64 (w : rf_w) : Nat → Int32 → Int32 → rf_m → Option (Int32 × rf_m)
  | 0, _, _, _ => none
  | n + 1, a1, a2, m => g_X2_strikesOut_64_b w (g_X2_strikesOut_64 w n) a1 a2 m
def g_X2_strikesOut_2_b (w : rf_w) (rec2 : Int32 → Int32 → rf_m → Option (Int32 × rf_m)) (a1 : Int32) (a2 : Int32) (m : rf_m) : Option (Int32 × rf_m) := (if (m.1 184 8) ≤ a2 then g_X2_strikesOut_64 w rf_fuel a1 0 m else rf_g (rf_in a2 12) (rf_b (g_X3_factOf w m (m.1 187 (Int32.toNatClampNeg a2)) 0) fun y1 m1 => rf_b (g_X3_tallyOf w m1 y1 8) fun y2 m2 => rf_g (rf_in y1 80) (rf_b (g_X3_tallyOf w (rf_i m2 190 (Int32.toNatClampNeg y1) y2) y1 4) fun y4 m4 => rf_g (rf_in y1 80) (rec2 a1 (a2 + 1) (rf_i m4 191 (Int32.toNatClampNeg y1) y4)))))
def g_X2_strikesOut_2 (w : rf_w) : Nat → Int32 → Int32 → rf_m → Option (Int32 × rf_m)
  | 0, _, _, _ => none
  | n + 1, a1, a2, m => g_X2_strikesOut_2_b w (g_X2_strikesOut_2 w n) a1 a2 m
def g_X2_strikesOut (w : rf_w) (m : rf_m) (a1 : Int32) : Option (Int32 × rf_m) := g_X2_strikesOut_2 w rf_fuel a1 0 m
theorem s_X2_strikesOut_135_b {w : rf_w} {K : rf_K} {r : Int32 × rf_m} (C : rf_Ctx 2 cX2_strikesOut 4 2 (rf_sh w) K) (hE : rf_End (some .boolean) K (rf_sh w) 0 0 (some (.int r.1)) (rf_MM w r.2)) {rec135 : Int32 → rf_m → Option (Int32 × rf_m)} (hr135 : ∀ (a2 : Int32) (m : rf_m), rec135 a2 m = some r → rf_V 4 (rf_sh w) K 0 0 135 ([(0, .ref 184), (2, .int a2)], [], rf_MM w m)) (a2 : Int32) (m : rf_m) (hg : g_X2_strikesOut_135_b w rec135 a2 m = some r) : rf_V 4 (rf_sh w) K 0 0 135 ([(0, .ref 184), (2, .int a2)], [], rf_MM w m) := by
  unfold g_X2_strikesOut_135_b at hg
  refine rf_seg C [(.iload 2, 1), (.aload 0, 1), (.invokeinterface 2 8, 3)] (pc' := 140) (S' := ([(0, .ref 184), (2, .int a2)], [.int (m.1 184 8), .int a2], rf_MM w m)) (by decide +kernel) rfl trivial ?_
  refine rf_icmp_ge C 54 194 (by decide +kernel) (fun hc => ?_) (fun hc => ?_)
  · replace hg := (if_pos hc).symm.trans hg
    refine rf_seg C [(.iconst 1, 1)] (pc' := 195) (S' := ([(0, .ref 184), (2, .int a2)], [.int 1], rf_MM w m)) (by decide +kernel) rfl trivial ?_
    obtain rfl := Option.some.inj hg
    exact rf_zret C hE (by decide) (by decide +kernel)
  · replace hg := (if_neg hc).symm.trans hg
    obtain ⟨q0, hg⟩ := rf_g_some hg
    refine rf_seg C [(.aload 0, 1), (.invokeinterface 2 4, 3), (.aload 0, 1), (.invokeinterface 2 7, 3), (.iload 2, 1), (.iaload, 1), (.iconst 0, 1)] (pc' := 154) (S' := ([(0, .ref 184), (2, .int a2)], [.int 0, .int (m.1 187 (Int32.toNatClampNeg a2)), .ref 26], rf_MM w m)) (by decide +kernel) rfl (rf_in_of q0) ?_
    obtain ⟨y1, m1, hc1, hg⟩ := rf_b_some hg
    refine rf_callv C rf_fit0 j_X3_factOf (ci := 3) (As := [.int (m.1 187 (Int32.toNatClampNeg a2)), .int 0]) (rest := []) mw_X3_factOf (c_X3_factOf hc1) (by decide) rfl (by decide) lk_2_95 rfl rfl (Nat.le_of_ble_eq_true rfl) (by decide +kernel) ?_
    show rf_V 4 (rf_sh w) K 0 0 157 ([(0, .ref 184), (2, .int a2)], [.int y1], rf_MM w m1)
    obtain ⟨q2, hg⟩ := rf_g_some hg
    refine rf_seg C [(.istore 3, 1), (.aload 0, 1), (.invokeinterface 2 12, 3), (.iload 3, 1), (.iaload, 1)] (pc' := 164) (S' := ([(3, .int y1), (0, .ref 184), (2, .int a2)], [.int (m1.1 191 (Int32.toNatClampNeg y1))], rf_MM w m1)) (by decide +kernel) rfl (rf_in_of q2) ?_
    refine rf_if_gt C 5 169 (by decide +kernel) (fun hc => ?_) (fun hc => ?_)
    · replace hg := (if_pos hc).symm.trans hg
      obtain ⟨q3, hg⟩ := rf_g_some hg
      obtain ⟨q4, hg⟩ := rf_g_some hg
      obtain ⟨q5, hg⟩ := rf_g_some hg
      obtain ⟨q6, hg⟩ := rf_g_some hg
      refine rf_seg C [(.aload 0, 1), (.invokeinterface 2 13, 3), (.iload 3, 1), (.aload 0, 1), (.invokeinterface 2 11, 3), (.iload 3, 1), (.iaload, 1), (.aload 0, 1), (.invokeinterface 2 12, 3), (.iload 3, 1), (.iaload, 1), (.idiv, 1), (.iastore, 1), (.iinc 2 1, 3)] (pc' := 191) (S' := ([(2, .int (a2 + 1)), (3, .int y1), (0, .ref 184)], [], rf_MM w (rf_i m1 192 (Int32.toNatClampNeg y1) ((m1.1 190 (Int32.toNatClampNeg y1)) / (m1.1 191 (Int32.toNatClampNeg y1)))))) (by decide +kernel) rfl (by exact ⟨(rf_in_of q3), (rf_in_of q4), (rf_nz_of q5), (rf_in_of q6)⟩) ?_
      refine rf_goto C (-56) 135 (by decide +kernel) ?_
      refine rf_few [2, 0] rfl ?_
      exact hr135 (a2 + 1) (rf_i m1 192 (Int32.toNatClampNeg y1) ((m1.1 190 (Int32.toNatClampNeg y1)) / (m1.1 191 (Int32.toNatClampNeg y1)))) hg
    · replace hg := (if_neg hc).symm.trans hg
      refine rf_seg C [(.iconst 0, 1)] (pc' := 168) (S' := ([(3, .int y1), (0, .ref 184), (2, .int a2)], [.int 0], rf_MM w m1)) (by decide +kernel) rfl trivial ?_
      obtain rfl := Option.some.inj hg
      exact rf_zret C hE (by decide) (by decide +kernel)
theorem s_X2_strikesOut_135 {w : rf_w} {K : rf_K} {r : Int32 × rf_m} (C : rf_Ctx 2 cX2_strikesOut 4 2 (rf_sh w) K) (hE : rf_End (some .boolean) K (rf_sh w) 0 0 (some (.int r.1)) (rf_MM w r.2)) (n : Nat) : ∀ (a2 : Int32) (m : rf_m), g_X2_strikesOut_135 w n a2 m = some r → rf_V 4 (rf_sh w) K 0 0 135 ([(0, .ref 184), (2, .int a2)], [], rf_MM w m) := by
  induction n with
  | zero => intro a2 m hg; cases hg
  | succ n ih => intro a2 m hg; exact s_X2_strikesOut_135_b C hE ih a2 m hg
theorem s_X2_strikesOut_64_b {w : rf_w} {K : rf_K} {r : Int32 × rf_m} (C : rf_Ctx 2 cX2_strikesOut 4 2 (rf_sh w) K) (hE : rf_End (some .boolean) K (rf_sh w) 0 0 (some (.int r.1)) (rf_MM w r.2)) {rec64 : Int32 → Int32 → rf_m → Option (Int32 × rf_m)} (hr64 : ∀ (a1 : Int32) (a2 : Int32) (m : rf_m), rec64 a1 a2 m = some r → rf_V 4 (rf_sh w) K 0 0 64 ([(0, .ref 184), (1, .int a1), (2, .int a2)], [], rf_MM w m)) (a1 : Int32) (a2 : Int32) (m : rf_m) (hg : g_X2_strikesOut_64_b w rec64 a1 a2 m = some r) : rf_V 4 (rf_sh w) K 0 0 64 ([(0, .ref 184), (1, .int a1), (2, .int a2)], [], rf_MM w m) := by
  unfold g_X2_strikesOut_64_b at hg
  refine rf_seg C [(.iload 2, 1), (.iload 1, 1)] (pc' := 66) (S' := ([(0, .ref 184), (1, .int a1), (2, .int a2)], [.int a1, .int a2], rf_MM w m)) (by decide +kernel) rfl trivial ?_
  refine rf_icmp_ge C 67 133 (by decide +kernel) (fun hc => ?_) (fun hc => ?_)
  · replace hg := (if_pos hc).symm.trans hg
    refine rf_seg C [(.iconst 0, 1), (.istore 2, 1)] (pc' := 135) (S' := ([(2, .int 0), (0, .ref 184), (1, .int a1)], [], rf_MM w m)) (by decide +kernel) rfl trivial ?_
    refine rf_few [1, 0] rfl ?_
    exact s_X2_strikesOut_135 C hE rf_fuel 0 m hg
  · replace hg := (if_neg hc).symm.trans hg
    obtain ⟨q0, hg⟩ := rf_g_some hg
    obtain ⟨q1, hg⟩ := rf_g_some hg
    refine rf_seg C [(.aload 0, 1), (.invokeinterface 2 4, 3), (.aload 0, 1), (.invokeinterface 2 7, 3), (.aload 0, 1), (.invokeinterface 2 9, 3), (.iload 2, 1), (.iaload, 1), (.iaload, 1), (.iconst 0, 1)] (pc' := 85) (S' := ([(0, .ref 184), (1, .int a1), (2, .int a2)], [.int 0, .int (m.1 187 (Int32.toNatClampNeg (m.1 188 (Int32.toNatClampNeg a2)))), .ref 26], rf_MM w m)) (by decide +kernel) rfl (by exact ⟨(rf_in_of q0), (rf_in_of q1)⟩) ?_
    obtain ⟨y2, m2, hc2, hg⟩ := rf_b_some hg
    refine rf_callv C rf_fit0 j_X3_factOf (ci := 3) (As := [.int (m.1 187 (Int32.toNatClampNeg (m.1 188 (Int32.toNatClampNeg a2)))), .int 0]) (rest := []) mw_X3_factOf (c_X3_factOf hc2) (by decide) rfl (by decide) lk_2_95 rfl rfl (Nat.le_of_ble_eq_true rfl) (by decide +kernel) ?_
    show rf_V 4 (rf_sh w) K 0 0 88 ([(0, .ref 184), (1, .int a1), (2, .int a2)], [.int y2], rf_MM w m2)
    obtain ⟨q3, hg⟩ := rf_g_some hg
    obtain ⟨q4, hg⟩ := rf_g_some hg
    obtain ⟨q5, hg⟩ := rf_g_some hg
    refine rf_seg C [(.istore 3, 1), (.aload 0, 1), (.invokeinterface 2 11, 3), (.iload 3, 1), (.dup2, 1), (.iaload, 1), (.aload 0, 1), (.invokeinterface 2 4, 3), (.aload 0, 1), (.invokeinterface 2 7, 3), (.aload 0, 1), (.invokeinterface 2 9, 3), (.iload 2, 1), (.iaload, 1), (.iaload, 1), (.iconst 1, 1)] (pc' := 112) (S' := ([(3, .int y2), (0, .ref 184), (1, .int a1), (2, .int a2)], [.int 1, .int (m2.1 187 (Int32.toNatClampNeg (m2.1 188 (Int32.toNatClampNeg a2)))), .ref 26, .int (m2.1 190 (Int32.toNatClampNeg y2)), .int y2, .ref 190], rf_MM w m2)) (by decide +kernel) rfl (by exact ⟨(rf_in_of q3), (rf_in_of q4), (rf_in_of q5)⟩) ?_
    obtain ⟨y6, m6, hc6, hg⟩ := rf_b_some hg
    refine rf_callv C rf_fit0 j_X3_factOf (ci := 3) (As := [.int (m2.1 187 (Int32.toNatClampNeg (m2.1 188 (Int32.toNatClampNeg a2)))), .int 1]) (rest := [.int (m2.1 190 (Int32.toNatClampNeg y2)), .int y2, .ref 190]) mw_X3_factOf (c_X3_factOf hc6) (by decide) rfl (by decide) lk_2_95 rfl rfl (Nat.le_of_ble_eq_true rfl) (by decide +kernel) ?_
    show rf_V 4 (rf_sh w) K 0 0 115 ([(3, .int y2), (0, .ref 184), (1, .int a1), (2, .int a2)], [.int y6, .int (m2.1 190 (Int32.toNatClampNeg y2)), .int y2, .ref 190], rf_MM w m6)
    obtain ⟨q7, hg⟩ := rf_g_some hg
    obtain ⟨q8, hg⟩ := rf_g_some hg
    obtain ⟨q9, hg⟩ := rf_g_some hg
    refine rf_seg C [(.isub, 1), (.iastore, 1), (.aload 0, 1), (.invokeinterface 2 12, 3), (.iload 3, 1), (.dup2, 1), (.iaload, 1), (.iconst 1, 1), (.isub, 1), (.iastore, 1), (.iinc 2 1, 3)] (pc' := 130) (S' := ([(2, .int (a2 + 1)), (3, .int y2), (0, .ref 184), (1, .int a1)], [], rf_MM w (rf_i (rf_i m6 190 (Int32.toNatClampNeg y2) ((m2.1 190 (Int32.toNatClampNeg y2)) - y6)) 191 (Int32.toNatClampNeg y2) (((rf_i m6 190 (Int32.toNatClampNeg y2) ((m2.1 190 (Int32.toNatClampNeg y2)) - y6)).1 191 (Int32.toNatClampNeg y2)) - 1)))) (by decide +kernel) rfl (by exact ⟨(rf_in_of q7), (rf_in_of q8), (rf_in_of q9)⟩) ?_
    refine rf_goto C (-66) 64 (by decide +kernel) ?_
    refine rf_few [2, 3, 0] rfl ?_
    exact hr64 a1 (a2 + 1) (rf_i (rf_i m6 190 (Int32.toNatClampNeg y2) ((m2.1 190 (Int32.toNatClampNeg y2)) - y6)) 191 (Int32.toNatClampNeg y2) (((rf_i m6 190 (Int32.toNatClampNeg y2) ((m2.1 190 (Int32.toNatClampNeg y2)) - y6)).1 191 (Int32.toNatClampNeg y2)) - 1)) hg
theorem s_X2_strikesOut_64 {w : rf_w} {K : rf_K} {r : Int32 × rf_m} (C : rf_Ctx 2 cX2_strikesOut 4 2 (rf_sh w) K) (hE : rf_End (some .boolean) K (rf_sh w) 0 0 (some (.int r.1)) (rf_MM w r.2)) (n : Nat) : ∀ (a1 : Int32) (a2 : Int32) (m : rf_m), g_X2_strikesOut_64 w n a1 a2 m = some r → rf_V 4 (rf_sh w) K 0 0 64 ([(0, .ref 184), (1, .int a1), (2, .int a2)], [], rf_MM w m) := by
  induction n with
  | zero => intro a1 a2 m hg; cases hg
  | succ n ih => intro a1 a2 m hg; exact s_X2_strikesOut_64_b C hE ih a1 a2 m hg
theorem s_X2_strikesOut_2_b {w : rf_w} {K : rf_K} {r : Int32 × rf_m} (C : rf_Ctx 2 cX2_strikesOut 4 2 (rf_sh w) K) (hE : rf_End (some .boolean) K (rf_sh w) 0 0 (some (.int r.1)) (rf_MM w r.2)) {rec2 : Int32 → Int32 → rf_m → Option (Int32 × rf_m)} (hr2 : ∀ (a1 : Int32) (a2 : Int32) (m : rf_m), rec2 a1 a2 m = some r → rf_V 4 (rf_sh w) K 0 0 2 ([(0, .ref 184), (1, .int a1), (2, .int a2)], [], rf_MM w m)) (a1 : Int32) (a2 : Int32) (m : rf_m) (hg : g_X2_strikesOut_2_b w rec2 a1 a2 m = some r) : rf_V 4 (rf_sh w) K 0 0 2 ([(0, .ref 184), (1, .int a1), (2, .int a2)], [], rf_MM w m) := by
  unfold g_X2_strikesOut_2_b at hg
  refine rf_seg C [(.iload 2, 1), (.aload 0, 1), (.invokeinterface 2 8, 3)] (pc' := 7) (S' := ([(0, .ref 184), (1, .int a1), (2, .int a2)], [.int (m.1 184 8), .int a2], rf_MM w m)) (by decide +kernel) rfl trivial ?_
  refine rf_icmp_ge C 55 62 (by decide +kernel) (fun hc => ?_) (fun hc => ?_)
  · replace hg := (if_pos hc).symm.trans hg
    refine rf_seg C [(.iconst 0, 1), (.istore 2, 1)] (pc' := 64) (S' := ([(2, .int 0), (0, .ref 184), (1, .int a1)], [], rf_MM w m)) (by decide +kernel) rfl trivial ?_
    refine rf_few [1, 2, 0] rfl ?_
    exact s_X2_strikesOut_64 C hE rf_fuel a1 0 m hg
  · replace hg := (if_neg hc).symm.trans hg
    obtain ⟨q0, hg⟩ := rf_g_some hg
    refine rf_seg C [(.aload 0, 1), (.invokeinterface 2 4, 3), (.aload 0, 1), (.invokeinterface 2 7, 3), (.iload 2, 1), (.iaload, 1), (.iconst 0, 1)] (pc' := 21) (S' := ([(0, .ref 184), (1, .int a1), (2, .int a2)], [.int 0, .int (m.1 187 (Int32.toNatClampNeg a2)), .ref 26], rf_MM w m)) (by decide +kernel) rfl (rf_in_of q0) ?_
    obtain ⟨y1, m1, hc1, hg⟩ := rf_b_some hg
    refine rf_callv C rf_fit0 j_X3_factOf (ci := 3) (As := [.int (m.1 187 (Int32.toNatClampNeg a2)), .int 0]) (rest := []) mw_X3_factOf (c_X3_factOf hc1) (by decide) rfl (by decide) lk_2_95 rfl rfl (Nat.le_of_ble_eq_true rfl) (by decide +kernel) ?_
    show rf_V 4 (rf_sh w) K 0 0 24 ([(0, .ref 184), (1, .int a1), (2, .int a2)], [.int y1], rf_MM w m1)
    refine rf_seg C [(.istore 3, 1), (.aload 0, 1), (.invokeinterface 2 11, 3), (.iload 3, 1), (.aload 0, 1), (.invokeinterface 2 4, 3), (.iload 3, 1), (.iconst 8, 2)] (pc' := 37) (S' := ([(3, .int y1), (0, .ref 184), (1, .int a1), (2, .int a2)], [.int 8, .int y1, .ref 26, .int y1, .ref 190], rf_MM w m1)) (by decide +kernel) rfl trivial ?_
    obtain ⟨y2, m2, hc2, hg⟩ := rf_b_some hg
    refine rf_callv C rf_fit0 j_X3_tallyOf (ci := 3) (As := [.int y1, .int 8]) (rest := [.int y1, .ref 190]) mw_X3_tallyOf (c_X3_tallyOf hc2) (by decide) rfl (by decide) lk_2_98 rfl rfl (Nat.le_of_ble_eq_true rfl) (by decide +kernel) ?_
    show rf_V 4 (rf_sh w) K 0 0 40 ([(3, .int y1), (0, .ref 184), (1, .int a1), (2, .int a2)], [.int y2, .int y1, .ref 190], rf_MM w m2)
    obtain ⟨q3, hg⟩ := rf_g_some hg
    refine rf_seg C [(.iastore, 1), (.aload 0, 1), (.invokeinterface 2 12, 3), (.iload 3, 1), (.aload 0, 1), (.invokeinterface 2 4, 3), (.iload 3, 1), (.iconst 4, 1)] (pc' := 52) (S' := ([(3, .int y1), (0, .ref 184), (1, .int a1), (2, .int a2)], [.int 4, .int y1, .ref 26, .int y1, .ref 191], rf_MM w (rf_i m2 190 (Int32.toNatClampNeg y1) y2))) (by decide +kernel) rfl (rf_in_of q3) ?_
    obtain ⟨y4, m4, hc4, hg⟩ := rf_b_some hg
    refine rf_callv C rf_fit0 j_X3_tallyOf (ci := 3) (As := [.int y1, .int 4]) (rest := [.int y1, .ref 191]) mw_X3_tallyOf (c_X3_tallyOf hc4) (by decide) rfl (by decide) lk_2_98 rfl rfl (Nat.le_of_ble_eq_true rfl) (by decide +kernel) ?_
    show rf_V 4 (rf_sh w) K 0 0 55 ([(3, .int y1), (0, .ref 184), (1, .int a1), (2, .int a2)], [.int y4, .int y1, .ref 191], rf_MM w m4)
    obtain ⟨q5, hg⟩ := rf_g_some hg
    refine rf_seg C [(.iastore, 1), (.iinc 2 1, 3)] (pc' := 59) (S' := ([(2, .int (a2 + 1)), (3, .int y1), (0, .ref 184), (1, .int a1)], [], rf_MM w (rf_i m4 191 (Int32.toNatClampNeg y1) y4))) (by decide +kernel) rfl (rf_in_of q5) ?_
    refine rf_goto C (-57) 2 (by decide +kernel) ?_
    refine rf_few [2, 3, 0] rfl ?_
    exact hr2 a1 (a2 + 1) (rf_i m4 191 (Int32.toNatClampNeg y1) y4) hg
theorem s_X2_strikesOut_2 {w : rf_w} {K : rf_K} {r : Int32 × rf_m} (C : rf_Ctx 2 cX2_strikesOut 4 2 (rf_sh w) K) (hE : rf_End (some .boolean) K (rf_sh w) 0 0 (some (.int r.1)) (rf_MM w r.2)) (n : Nat) : ∀ (a1 : Int32) (a2 : Int32) (m : rf_m), g_X2_strikesOut_2 w n a1 a2 m = some r → rf_V 4 (rf_sh w) K 0 0 2 ([(0, .ref 184), (1, .int a1), (2, .int a2)], [], rf_MM w m) := by
  induction n with
  | zero => intro a1 a2 m hg; cases hg
  | succ n ih => intro a1 a2 m hg; exact s_X2_strikesOut_2_b C hE ih a1 a2 m hg
theorem c_X2_strikesOut {w : rf_w} {m : rf_m} {a1 : Int32} {r : Int32 × rf_m} (hg : g_X2_strikesOut w m a1 = some r) : rf_Con j_X2_strikesOut 2 (rf_sh w) [.ref 184, .int a1] (rf_MM w m) (some (.int r.1)) (rf_MM w r.2) := by
  refine rf_con j_X2_strikesOut 2 ⟨by decide +kernel, rfl, Nat.le_of_ble_eq_true rfl⟩ (fun K C hE => ?_)
  unfold g_X2_strikesOut at hg
  show rf_V 4 (rf_sh w) K 0 0 0 ([(0, .ref 184), (1, .int a1)], [], rf_MM w m)
  refine rf_seg C [(.iconst 0, 1), (.istore 2, 1)] (pc' := 2) (S' := ([(2, .int 0), (0, .ref 184), (1, .int a1)], [], rf_MM w m)) (by decide +kernel) rfl trivial ?_
  refine rf_few [1, 2, 0] rfl ?_
  exact s_X2_strikesOut_2 C hE rf_fuel a1 0 m hg
-- X7_sumLess__53_192
abbrev j_X7_sumLess__53_192 : rf_J := (7, yX7_sumLess, cX7_sumLess, 7, (some .int))
theorem mw_X7_sumLess__53_192 : rf_ms j_X7_sumLess__53_192 5 := ⟨⟨rf_mem 60 (by decide +kernel), rf_mem 1 (by decide +kernel), rf_mem 60 (by decide +kernel)⟩, by decide +kernel, by decide⟩
def g_X7_sumLess__53_192_6_b (w : rf_w) (rec6 : Int32 → Int32 → Int32 → Int32 → Int32 → rf_m → Option (Int32 × rf_m)) (a1 : Int32) (a2 : Int32) (a4 : Int32) (a5 : Int32) (a6 : Int32) (m : rf_m) : Option (Int32 × rf_m) := (if (a1 + a2) ≤ a6 then some (a5 - a4, m) else rf_g (rf_in a6 72) (rf_g (rf_in (m.1 53 (Int32.toNatClampNeg a6)) 80) ((if (0 : Int32) ≤ (m.1 192 (Int32.toNatClampNeg (m.1 53 (Int32.toNatClampNeg a6)))) then rf_g (rf_in a6 72) (rf_g (rf_in (m.1 53 (Int32.toNatClampNeg a6)) 80) (rf_vi (a5 + (m.1 192 (Int32.toNatClampNeg (m.1 53 (Int32.toNatClampNeg a6))))) fun x4 => rec6 a1 a2 a4 x4 (a6 + 1) m)) else some ((-2147483648), m)))))
def g_X7_sumLess__53_192_6 (w : rf_w) : Nat → Int32 → Int32 → Int32 → Int32 → Int32 → rf_m → Option (Int32 × rf_m)
  | 0, _, _, _, _, _, _ => none
  | n + 1, a1, a2, a4, a5, a6, m => g_X7_sumLess__53_192_6_b w (g_X7_sumLess__53_192_6 w n) a1 a2 a4 a5 a6 m
def g_X7_sumLess__53_192 (w : rf_w) (m : rf_m) (a1 : Int32) (a2 : Int32) (a4 : Int32) : Option (Int32 × rf_m) := g_X7_sumLess__53_192_6 w rf_fuel a1 a2 a4 0 a1 m
theorem s_X7_sumLess__53_192_6_b {w : rf_w} {K : rf_K} {r : Int32 × rf_m} (C : rf_Ctx 7 cX7_sumLess 7 1 (rf_sh w) K) (hE : rf_End (some .int) K (rf_sh w) 0 0 (some (.int r.1)) (rf_MM w r.2)) {rec6 : Int32 → Int32 → Int32 → Int32 → Int32 → rf_m → Option (Int32 × rf_m)} (hr6 : ∀ (a1 : Int32) (a2 : Int32) (a4 : Int32) (a5 : Int32) (a6 : Int32) (m : rf_m), rec6 a1 a2 a4 a5 a6 m = some r → rf_V 7 (rf_sh w) K 0 0 6 ([(0, .ref 53), (1, .int a1), (2, .int a2), (3, .ref 192), (4, .int a4), (5, .int a5), (6, .int a6)], [], rf_MM w m)) (a1 : Int32) (a2 : Int32) (a4 : Int32) (a5 : Int32) (a6 : Int32) (m : rf_m) (hg : g_X7_sumLess__53_192_6_b w rec6 a1 a2 a4 a5 a6 m = some r) : rf_V 7 (rf_sh w) K 0 0 6 ([(0, .ref 53), (1, .int a1), (2, .int a2), (3, .ref 192), (4, .int a4), (5, .int a5), (6, .int a6)], [], rf_MM w m) := by
  unfold g_X7_sumLess__53_192_6_b at hg
  refine rf_seg C [(.iload 6, 2), (.iload 1, 1), (.iload 2, 1), (.iadd, 1)] (pc' := 11) (S' := ([(0, .ref 53), (1, .int a1), (2, .int a2), (3, .ref 192), (4, .int a4), (5, .int a5), (6, .int a6)], [.int (a1 + a2), .int a6], rf_MM w m)) (by decide +kernel) rfl trivial ?_
  refine rf_icmp_ge C 32 43 (by decide +kernel) (fun hc => ?_) (fun hc => ?_)
  · replace hg := (if_pos hc).symm.trans hg
    refine rf_seg C [(.iload 5, 2), (.iload 4, 2), (.isub, 1)] (pc' := 48) (S' := ([(0, .ref 53), (1, .int a1), (2, .int a2), (3, .ref 192), (4, .int a4), (5, .int a5), (6, .int a6)], [.int (a5 - a4)], rf_MM w m)) (by decide +kernel) rfl trivial ?_
    obtain rfl := Option.some.inj hg
    exact rf_iret C hE (by decide +kernel)
  · replace hg := (if_neg hc).symm.trans hg
    obtain ⟨q0, hg⟩ := rf_g_some hg
    obtain ⟨q1, hg⟩ := rf_g_some hg
    refine rf_seg C [(.aload 3, 1), (.aload 0, 1), (.iload 6, 2), (.iaload, 1), (.iaload, 1)] (pc' := 20) (S' := ([(0, .ref 53), (1, .int a1), (2, .int a2), (3, .ref 192), (4, .int a4), (5, .int a5), (6, .int a6)], [.int (m.1 192 (Int32.toNatClampNeg (m.1 53 (Int32.toNatClampNeg a6))))], rf_MM w m)) (by decide +kernel) rfl (by exact ⟨(rf_in_of q0), (rf_in_of q1)⟩) ?_
    refine rf_if_ge C 6 26 (by decide +kernel) (fun hc => ?_) (fun hc => ?_)
    · replace hg := (if_pos hc).symm.trans hg
      obtain ⟨q2, hg⟩ := rf_g_some hg
      obtain ⟨q3, hg⟩ := rf_g_some hg
      refine rf_seg C [(.iload 5, 2), (.aload 3, 1), (.aload 0, 1), (.iload 6, 2), (.iaload, 1), (.iaload, 1), (.iadd, 1)] (pc' := 35) (S' := ([(0, .ref 53), (1, .int a1), (2, .int a2), (3, .ref 192), (4, .int a4), (5, .int a5), (6, .int a6)], [.int (a5 + (m.1 192 (Int32.toNatClampNeg (m.1 53 (Int32.toNatClampNeg a6)))))], rf_MM w m)) (by decide +kernel) rfl (by exact ⟨(rf_in_of q2), (rf_in_of q3)⟩) ?_
      obtain ⟨x4, hx4, hg⟩ := rf_vi_some hg
      refine rf_vi_top hx4 ?_
      refine rf_seg C [(.istore 5, 2), (.iinc 6 1, 3)] (pc' := 40) (S' := ([(6, .int (a6 + 1)), (5, .int x4), (0, .ref 53), (1, .int a1), (2, .int a2), (3, .ref 192), (4, .int a4)], [], rf_MM w m)) (by decide +kernel) rfl trivial ?_
      refine rf_goto C (-34) 6 (by decide +kernel) ?_
      refine rf_few [2, 3, 4, 5, 6, 1, 0] rfl ?_
      exact hr6 a1 a2 a4 x4 (a6 + 1) m hg
    · replace hg := (if_neg hc).symm.trans hg
      refine rf_seg C [(.iconst (-2147483648), 2)] (pc' := 25) (S' := ([(0, .ref 53), (1, .int a1), (2, .int a2), (3, .ref 192), (4, .int a4), (5, .int a5), (6, .int a6)], [.int ((-2147483648))], rf_MM w m)) (by decide +kernel) rfl trivial ?_
      obtain rfl := Option.some.inj hg
      exact rf_iret C hE (by decide +kernel)
theorem s_X7_sumLess__53_192_6 {w : rf_w} {K : rf_K} {r : Int32 × rf_m} (C : rf_Ctx 7 cX7_sumLess 7 1 (rf_sh w) K) (hE : rf_End (some .int) K (rf_sh w) 0 0 (some (.int r.1)) (rf_MM w r.2)) (n : Nat) : ∀ (a1 : Int32) (a2 : Int32) (a4 : Int32) (a5 : Int32) (a6 : Int32) (m : rf_m), g_X7_sumLess__53_192_6 w n a1 a2 a4 a5 a6 m = some r → rf_V 7 (rf_sh w) K 0 0 6 ([(0, .ref 53), (1, .int a1), (2, .int a2), (3, .ref 192), (4, .int a4), (5, .int a5), (6, .int a6)], [], rf_MM w m) := by
  induction n with
  | zero => intro a1 a2 a4 a5 a6 m hg; cases hg
  | succ n ih => intro a1 a2 a4 a5 a6 m hg; exact s_X7_sumLess__53_192_6_b C hE ih a1 a2 a4 a5 a6 m hg
theorem c_X7_sumLess__53_192 {w : rf_w} {m : rf_m} {a1 : Int32} {a2 : Int32} {a4 : Int32} {r : Int32 × rf_m} (hg : g_X7_sumLess__53_192 w m a1 a2 a4 = some r) : rf_Con j_X7_sumLess__53_192 1 (rf_sh w) [.ref 53, .int a1, .int a2, .ref 192, .int a4] (rf_MM w m) (some (.int r.1)) (rf_MM w r.2) := by
  refine rf_con j_X7_sumLess__53_192 1 ⟨by decide +kernel, rfl, Nat.le_of_ble_eq_true rfl⟩ (fun K C hE => ?_)
  unfold g_X7_sumLess__53_192 at hg
  show rf_V 7 (rf_sh w) K 0 0 0 ([(0, .ref 53), (1, .int a1), (2, .int a2), (3, .ref 192), (4, .int a4)], [], rf_MM w m)
  refine rf_seg C [(.iconst 0, 1), (.istore 5, 2), (.iload 1, 1), (.istore 6, 2)] (pc' := 6) (S' := ([(6, .int a1), (5, .int 0), (0, .ref 53), (1, .int a1), (2, .int a2), (3, .ref 192), (4, .int a4)], [], rf_MM w m)) (by decide +kernel) rfl trivial ?_
  refine rf_few [2, 3, 4, 5, 6, 1, 0] rfl ?_
  exact s_X7_sumLess__53_192_6 C hE rf_fuel a1 a2 a4 0 a1 m hg
-- X7_roundMiss__192
abbrev j_X7_roundMiss__192 : rf_J := (7, yX7_roundMiss, cX7_roundMiss, 3, (some .int))
theorem mw_X7_roundMiss__192 : rf_mv j_X7_roundMiss__192 (rf_R 7) 2 := ⟨⟨rf_mem 60 (by decide +kernel), rf_mem 60 (by decide +kernel), rf_mem 1 (by decide +kernel), rf_mem 60 (by decide +kernel)⟩, by decide +kernel, by decide⟩
def g_X7_roundMiss__192 (w : rf_w) (m : rf_m) (a1 : Int32) : Option (Int32 × rf_m) := rf_g (rf_in a1 12) (rf_b (g_X7_sumLess__53_192 w m (a1 * 6) (m.1 54 (Int32.toNatClampNeg a1)) 12960000) fun y1 m1 => some (y1, m1))
theorem c_X7_roundMiss__192 {w : rf_w} {m : rf_m} {a1 : Int32} {r : Int32 × rf_m} (hg : g_X7_roundMiss__192 w m a1 = some r) : rf_Con j_X7_roundMiss__192 2 (rf_sh w) [.ref 50, .int a1, .ref 192] (rf_MM w m) (some (.int r.1)) (rf_MM w r.2) := by
  refine rf_con j_X7_roundMiss__192 2 ⟨by decide +kernel, rfl, Nat.le_of_ble_eq_true rfl⟩ (fun K C hE => ?_)
  unfold g_X7_roundMiss__192 at hg
  show rf_V 3 (rf_sh w) K 0 0 0 ([(0, .ref 50), (1, .int a1), (2, .ref 192)], [], rf_MM w m)
  obtain ⟨q0, hg⟩ := rf_g_some hg
  refine rf_seg C [(.aload 0, 1), (.invokeinterface 7 5, 3), (.iload 1, 1), (.iconst 6, 2), (.imul, 1), (.aload 0, 1), (.invokeinterface 7 6, 3), (.iload 1, 1), (.iaload, 1), (.aload 2, 1), (.iconst 12960000, 2)] (pc' := 17) (S' := ([(0, .ref 50), (1, .int a1), (2, .ref 192)], [.int 12960000, .ref 192, .int (m.1 54 (Int32.toNatClampNeg a1)), .int (a1 * 6), .ref 53], rf_MM w m)) (by decide +kernel) rfl (rf_in_of q0) ?_
  obtain ⟨y1, m1, hc1, hg⟩ := rf_b_some hg
  refine rf_calls C rf_fit0 j_X7_sumLess__53_192 (As := [.ref 53, .int (a1 * 6), .int (m.1 54 (Int32.toNatClampNeg a1)), .ref 192, .int 12960000]) (rest := []) mw_X7_sumLess__53_192 (c_X7_sumLess__53_192 hc1) (by decide) lk_7_68 rfl rfl (Nat.le_of_ble_eq_true rfl) (by decide +kernel) ?_
  show rf_V 3 (rf_sh w) K 0 0 20 ([(0, .ref 50), (1, .int a1), (2, .ref 192)], [.int y1], rf_MM w m1)
  obtain rfl := Option.some.inj hg
  exact rf_iret C hE (by decide +kernel)
-- X7_sumLess__51_192
abbrev j_X7_sumLess__51_192 : rf_J := (7, yX7_sumLess, cX7_sumLess, 7, (some .int))
theorem mw_X7_sumLess__51_192 : rf_ms j_X7_sumLess__51_192 5 := ⟨⟨rf_mem 60 (by decide +kernel), rf_mem 1 (by decide +kernel), rf_mem 60 (by decide +kernel)⟩, by decide +kernel, by decide⟩
def g_X7_sumLess__51_192_6_b (w : rf_w) (rec6 : Int32 → Int32 → Int32 → Int32 → Int32 → rf_m → Option (Int32 × rf_m)) (a1 : Int32) (a2 : Int32) (a4 : Int32) (a5 : Int32) (a6 : Int32) (m : rf_m) : Option (Int32 × rf_m) := (if (a1 + a2) ≤ a6 then some (a5 - a4, m) else rf_g (rf_in a6 90) (rf_g (rf_in (m.1 51 (Int32.toNatClampNeg a6)) 80) ((if (0 : Int32) ≤ (m.1 192 (Int32.toNatClampNeg (m.1 51 (Int32.toNatClampNeg a6)))) then rf_g (rf_in a6 90) (rf_g (rf_in (m.1 51 (Int32.toNatClampNeg a6)) 80) (rf_vi (a5 + (m.1 192 (Int32.toNatClampNeg (m.1 51 (Int32.toNatClampNeg a6))))) fun x4 => rec6 a1 a2 a4 x4 (a6 + 1) m)) else some ((-2147483648), m)))))
def g_X7_sumLess__51_192_6 (w : rf_w) : Nat → Int32 → Int32 → Int32 → Int32 → Int32 → rf_m → Option (Int32 × rf_m)
  | 0, _, _, _, _, _, _ => none
  | n + 1, a1, a2, a4, a5, a6, m => g_X7_sumLess__51_192_6_b w (g_X7_sumLess__51_192_6 w n) a1 a2 a4 a5 a6 m
def g_X7_sumLess__51_192 (w : rf_w) (m : rf_m) (a1 : Int32) (a2 : Int32) (a4 : Int32) : Option (Int32 × rf_m) := g_X7_sumLess__51_192_6 w rf_fuel a1 a2 a4 0 a1 m
theorem s_X7_sumLess__51_192_6_b {w : rf_w} {K : rf_K} {r : Int32 × rf_m} (C : rf_Ctx 7 cX7_sumLess 7 1 (rf_sh w) K) (hE : rf_End (some .int) K (rf_sh w) 0 0 (some (.int r.1)) (rf_MM w r.2)) {rec6 : Int32 → Int32 → Int32 → Int32 → Int32 → rf_m → Option (Int32 × rf_m)} (hr6 : ∀ (a1 : Int32) (a2 : Int32) (a4 : Int32) (a5 : Int32) (a6 : Int32) (m : rf_m), rec6 a1 a2 a4 a5 a6 m = some r → rf_V 7 (rf_sh w) K 0 0 6 ([(0, .ref 51), (1, .int a1), (2, .int a2), (3, .ref 192), (4, .int a4), (5, .int a5), (6, .int a6)], [], rf_MM w m)) (a1 : Int32) (a2 : Int32) (a4 : Int32) (a5 : Int32) (a6 : Int32) (m : rf_m) (hg : g_X7_sumLess__51_192_6_b w rec6 a1 a2 a4 a5 a6 m = some r) : rf_V 7 (rf_sh w) K 0 0 6 ([(0, .ref 51), (1, .int a1), (2, .int a2), (3, .ref 192), (4, .int a4), (5, .int a5), (6, .int a6)], [], rf_MM w m) := by
  unfold g_X7_sumLess__51_192_6_b at hg
  refine rf_seg C [(.iload 6, 2), (.iload 1, 1), (.iload 2, 1), (.iadd, 1)] (pc' := 11) (S' := ([(0, .ref 51), (1, .int a1), (2, .int a2), (3, .ref 192), (4, .int a4), (5, .int a5), (6, .int a6)], [.int (a1 + a2), .int a6], rf_MM w m)) (by decide +kernel) rfl trivial ?_
  refine rf_icmp_ge C 32 43 (by decide +kernel) (fun hc => ?_) (fun hc => ?_)
  · replace hg := (if_pos hc).symm.trans hg
    refine rf_seg C [(.iload 5, 2), (.iload 4, 2), (.isub, 1)] (pc' := 48) (S' := ([(0, .ref 51), (1, .int a1), (2, .int a2), (3, .ref 192), (4, .int a4), (5, .int a5), (6, .int a6)], [.int (a5 - a4)], rf_MM w m)) (by decide +kernel) rfl trivial ?_
    obtain rfl := Option.some.inj hg
    exact rf_iret C hE (by decide +kernel)
  · replace hg := (if_neg hc).symm.trans hg
    obtain ⟨q0, hg⟩ := rf_g_some hg
    obtain ⟨q1, hg⟩ := rf_g_some hg
    refine rf_seg C [(.aload 3, 1), (.aload 0, 1), (.iload 6, 2), (.iaload, 1), (.iaload, 1)] (pc' := 20) (S' := ([(0, .ref 51), (1, .int a1), (2, .int a2), (3, .ref 192), (4, .int a4), (5, .int a5), (6, .int a6)], [.int (m.1 192 (Int32.toNatClampNeg (m.1 51 (Int32.toNatClampNeg a6))))], rf_MM w m)) (by decide +kernel) rfl (by exact ⟨(rf_in_of q0), (rf_in_of q1)⟩) ?_
    refine rf_if_ge C 6 26 (by decide +kernel) (fun hc => ?_) (fun hc => ?_)
    · replace hg := (if_pos hc).symm.trans hg
      obtain ⟨q2, hg⟩ := rf_g_some hg
      obtain ⟨q3, hg⟩ := rf_g_some hg
      refine rf_seg C [(.iload 5, 2), (.aload 3, 1), (.aload 0, 1), (.iload 6, 2), (.iaload, 1), (.iaload, 1), (.iadd, 1)] (pc' := 35) (S' := ([(0, .ref 51), (1, .int a1), (2, .int a2), (3, .ref 192), (4, .int a4), (5, .int a5), (6, .int a6)], [.int (a5 + (m.1 192 (Int32.toNatClampNeg (m.1 51 (Int32.toNatClampNeg a6)))))], rf_MM w m)) (by decide +kernel) rfl (by exact ⟨(rf_in_of q2), (rf_in_of q3)⟩) ?_
      obtain ⟨x4, hx4, hg⟩ := rf_vi_some hg
      refine rf_vi_top hx4 ?_
      refine rf_seg C [(.istore 5, 2), (.iinc 6 1, 3)] (pc' := 40) (S' := ([(6, .int (a6 + 1)), (5, .int x4), (0, .ref 51), (1, .int a1), (2, .int a2), (3, .ref 192), (4, .int a4)], [], rf_MM w m)) (by decide +kernel) rfl trivial ?_
      refine rf_goto C (-34) 6 (by decide +kernel) ?_
      refine rf_few [2, 3, 4, 5, 6, 1, 0] rfl ?_
      exact hr6 a1 a2 a4 x4 (a6 + 1) m hg
    · replace hg := (if_neg hc).symm.trans hg
      refine rf_seg C [(.iconst (-2147483648), 2)] (pc' := 25) (S' := ([(0, .ref 51), (1, .int a1), (2, .int a2), (3, .ref 192), (4, .int a4), (5, .int a5), (6, .int a6)], [.int ((-2147483648))], rf_MM w m)) (by decide +kernel) rfl trivial ?_
      obtain rfl := Option.some.inj hg
      exact rf_iret C hE (by decide +kernel)
theorem s_X7_sumLess__51_192_6 {w : rf_w} {K : rf_K} {r : Int32 × rf_m} (C : rf_Ctx 7 cX7_sumLess 7 1 (rf_sh w) K) (hE : rf_End (some .int) K (rf_sh w) 0 0 (some (.int r.1)) (rf_MM w r.2)) (n : Nat) : ∀ (a1 : Int32) (a2 : Int32) (a4 : Int32) (a5 : Int32) (a6 : Int32) (m : rf_m), g_X7_sumLess__51_192_6 w n a1 a2 a4 a5 a6 m = some r → rf_V 7 (rf_sh w) K 0 0 6 ([(0, .ref 51), (1, .int a1), (2, .int a2), (3, .ref 192), (4, .int a4), (5, .int a5), (6, .int a6)], [], rf_MM w m) := by
  induction n with
  | zero => intro a1 a2 a4 a5 a6 m hg; cases hg
  | succ n ih => intro a1 a2 a4 a5 a6 m hg; exact s_X7_sumLess__51_192_6_b C hE ih a1 a2 a4 a5 a6 m hg
theorem c_X7_sumLess__51_192 {w : rf_w} {m : rf_m} {a1 : Int32} {a2 : Int32} {a4 : Int32} {r : Int32 × rf_m} (hg : g_X7_sumLess__51_192 w m a1 a2 a4 = some r) : rf_Con j_X7_sumLess__51_192 1 (rf_sh w) [.ref 51, .int a1, .int a2, .ref 192, .int a4] (rf_MM w m) (some (.int r.1)) (rf_MM w r.2) := by
  refine rf_con j_X7_sumLess__51_192 1 ⟨by decide +kernel, rfl, Nat.le_of_ble_eq_true rfl⟩ (fun K C hE => ?_)
  unfold g_X7_sumLess__51_192 at hg
  show rf_V 7 (rf_sh w) K 0 0 0 ([(0, .ref 51), (1, .int a1), (2, .int a2), (3, .ref 192), (4, .int a4)], [], rf_MM w m)
  refine rf_seg C [(.iconst 0, 1), (.istore 5, 2), (.iload 1, 1), (.istore 6, 2)] (pc' := 6) (S' := ([(6, .int a1), (5, .int 0), (0, .ref 51), (1, .int a1), (2, .int a2), (3, .ref 192), (4, .int a4)], [], rf_MM w m)) (by decide +kernel) rfl trivial ?_
  refine rf_few [2, 3, 4, 5, 6, 1, 0] rfl ?_
  exact s_X7_sumLess__51_192_6 C hE rf_fuel a1 a2 a4 0 a1 m hg
-- X7_triangleMiss__192
abbrev j_X7_triangleMiss__192 : rf_J := (7, yX7_triangleMiss, cX7_triangleMiss, 3, (some .int))
theorem mw_X7_triangleMiss__192 : rf_mv j_X7_triangleMiss__192 (rf_R 7) 2 := ⟨⟨rf_mem 60 (by decide +kernel), rf_mem 60 (by decide +kernel), rf_mem 1 (by decide +kernel), rf_mem 60 (by decide +kernel)⟩, by decide +kernel, by decide⟩
def g_X7_triangleMiss__192 (w : rf_w) (m : rf_m) (a1 : Int32) : Option (Int32 × rf_m) := rf_g (rf_in a1 30) (rf_b (g_X7_sumLess__51_192 w m (a1 * 3) 3 (6480000 + (m.1 52 (Int32.toNatClampNeg a1)))) fun y1 m1 => some (y1, m1))
theorem c_X7_triangleMiss__192 {w : rf_w} {m : rf_m} {a1 : Int32} {r : Int32 × rf_m} (hg : g_X7_triangleMiss__192 w m a1 = some r) : rf_Con j_X7_triangleMiss__192 2 (rf_sh w) [.ref 50, .int a1, .ref 192] (rf_MM w m) (some (.int r.1)) (rf_MM w r.2) := by
  refine rf_con j_X7_triangleMiss__192 2 ⟨by decide +kernel, rfl, Nat.le_of_ble_eq_true rfl⟩ (fun K C hE => ?_)
  unfold g_X7_triangleMiss__192 at hg
  show rf_V 3 (rf_sh w) K 0 0 0 ([(0, .ref 50), (1, .int a1), (2, .ref 192)], [], rf_MM w m)
  obtain ⟨q0, hg⟩ := rf_g_some hg
  refine rf_seg C [(.aload 0, 1), (.invokeinterface 7 3, 3), (.iload 1, 1), (.iconst 3, 1), (.imul, 1), (.iconst 3, 1), (.aload 2, 1), (.iconst 6480000, 2), (.aload 0, 1), (.invokeinterface 7 4, 3), (.iload 1, 1), (.iaload, 1), (.iadd, 1)] (pc' := 18) (S' := ([(0, .ref 50), (1, .int a1), (2, .ref 192)], [.int (6480000 + (m.1 52 (Int32.toNatClampNeg a1))), .ref 192, .int 3, .int (a1 * 3), .ref 51], rf_MM w m)) (by decide +kernel) rfl (rf_in_of q0) ?_
  obtain ⟨y1, m1, hc1, hg⟩ := rf_b_some hg
  refine rf_calls C rf_fit0 j_X7_sumLess__51_192 (As := [.ref 51, .int (a1 * 3), .int 3, .ref 192, .int (6480000 + (m.1 52 (Int32.toNatClampNeg a1)))]) (rest := []) mw_X7_sumLess__51_192 (c_X7_sumLess__51_192 hc1) (by decide) lk_7_68 rfl rfl (Nat.le_of_ble_eq_true rfl) (by decide +kernel) ?_
  show rf_V 3 (rf_sh w) K 0 0 21 ([(0, .ref 50), (1, .int a1), (2, .ref 192)], [.int y1], rf_MM w m1)
  obtain rfl := Option.some.inj hg
  exact rf_iret C hE (by decide +kernel)
-- X7_missOf__192
abbrev j_X7_missOf__192 : rf_J := (7, yX7_missOf, cX7_missOf, 3, (some .int))
theorem mw_X7_missOf__192 : rf_mv j_X7_missOf__192 (rf_R 7) 2 := ⟨⟨rf_mem 63 (by decide +kernel), rf_mem 63 (by decide +kernel), rf_mem 1 (by decide +kernel), rf_mem 63 (by decide +kernel)⟩, by decide +kernel, by decide⟩
def g_X7_missOf__192 (w : rf_w) (m : rf_m) (a1 : Int32) : Option (Int32 × rf_m) := (if (m.1 50 0) ≤ a1 then rf_b (g_X7_roundMiss__192 w m (a1 - (m.1 50 0))) fun y0 m0 => some (y0, m0) else rf_b (g_X7_triangleMiss__192 w m a1) fun y1 m1 => some (y1, m1))
theorem c_X7_missOf__192 {w : rf_w} {m : rf_m} {a1 : Int32} {r : Int32 × rf_m} (hg : g_X7_missOf__192 w m a1 = some r) : rf_Con j_X7_missOf__192 3 (rf_sh w) [.ref 50, .int a1, .ref 192] (rf_MM w m) (some (.int r.1)) (rf_MM w r.2) := by
  refine rf_con j_X7_missOf__192 3 ⟨by decide +kernel, rfl, Nat.le_of_ble_eq_true rfl⟩ (fun K C hE => ?_)
  unfold g_X7_missOf__192 at hg
  show rf_V 3 (rf_sh w) K 0 0 0 ([(0, .ref 50), (1, .int a1), (2, .ref 192)], [], rf_MM w m)
  refine rf_seg C [(.iload 1, 1), (.aload 0, 1), (.invokeinterface 7 0, 3)] (pc' := 5) (S' := ([(0, .ref 50), (1, .int a1), (2, .ref 192)], [.int (m.1 50 0), .int a1], rf_MM w m)) (by decide +kernel) rfl trivial ?_
  refine rf_icmp_ge C 12 17 (by decide +kernel) (fun hc => ?_) (fun hc => ?_)
  · replace hg := (if_pos hc).symm.trans hg
    refine rf_seg C [(.aload 0, 1), (.iload 1, 1), (.aload 0, 1), (.invokeinterface 7 0, 3), (.isub, 1), (.aload 2, 1)] (pc' := 25) (S' := ([(0, .ref 50), (1, .int a1), (2, .ref 192)], [.ref 192, .int (a1 - (m.1 50 0)), .ref 50], rf_MM w m)) (by decide +kernel) rfl trivial ?_
    obtain ⟨y0, m0, hc0, hg⟩ := rf_b_some hg
    refine rf_callv C rf_fit0 j_X7_roundMiss__192 (ci := 7) (As := [.int (a1 - (m.1 50 0)), .ref 192]) (rest := []) mw_X7_roundMiss__192 (c_X7_roundMiss__192 hc0) (by decide) rfl (by decide) lk_7_78 rfl rfl (Nat.le_of_ble_eq_true rfl) (by decide +kernel) ?_
    show rf_V 3 (rf_sh w) K 0 0 28 ([(0, .ref 50), (1, .int a1), (2, .ref 192)], [.int y0], rf_MM w m0)
    obtain rfl := Option.some.inj hg
    exact rf_iret C hE (by decide +kernel)
  · replace hg := (if_neg hc).symm.trans hg
    refine rf_seg C [(.aload 0, 1), (.iload 1, 1), (.aload 2, 1)] (pc' := 11) (S' := ([(0, .ref 50), (1, .int a1), (2, .ref 192)], [.ref 192, .int a1, .ref 50], rf_MM w m)) (by decide +kernel) rfl trivial ?_
    obtain ⟨y1, m1, hc1, hg⟩ := rf_b_some hg
    refine rf_callv C rf_fit0 j_X7_triangleMiss__192 (ci := 7) (As := [.int a1, .ref 192]) (rest := []) mw_X7_triangleMiss__192 (c_X7_triangleMiss__192 hc1) (by decide) rfl (by decide) lk_7_74 rfl rfl (Nat.le_of_ble_eq_true rfl) (by decide +kernel) ?_
    show rf_V 3 (rf_sh w) K 0 0 14 ([(0, .ref 50), (1, .int a1), (2, .ref 192)], [.int y1], rf_MM w m1)
    refine rf_goto C 14 28 (by decide +kernel) ?_
    obtain rfl := Option.some.inj hg
    exact rf_iret C hE (by decide +kernel)
-- abs
abbrev j_abs : rf_J := (22, Lib.Math.abs.name, Lib.Math.abs.code, 1, (some .int))
theorem mw_abs : rf_ms j_abs 1 := ⟨⟨rf_mem 20 (by decide +kernel), rf_mem 20 (by decide +kernel), rf_mem 20 (by decide +kernel)⟩, by decide +kernel, by decide⟩
def g_abs (w : rf_w) (m : rf_m) (a0 : Int32) : Option (Int32 × rf_m) := (if (0 : Int32) ≤ a0 then some (a0, m) else some (-a0, m))
theorem c_abs {w : rf_w} {m : rf_m} {a0 : Int32} {r : Int32 × rf_m} (hg : g_abs w m a0 = some r) : rf_Con j_abs 1 (rf_sh w) [.int a0] (rf_MM w m) (some (.int r.1)) (rf_MM w r.2) := by
  refine rf_con j_abs 1 ⟨by decide +kernel, rfl, Nat.le_of_ble_eq_true rfl⟩ (fun K C hE => ?_)
  unfold g_abs at hg
  show rf_V 1 (rf_sh w) K 0 0 0 ([(0, .int a0)], [], rf_MM w m)
  refine rf_seg C [(.iload 0, 1)] (pc' := 1) (S' := ([(0, .int a0)], [.int a0], rf_MM w m)) (by decide +kernel) rfl trivial ?_
  refine rf_if_ge C 8 9 (by decide +kernel) (fun hc => ?_) (fun hc => ?_)
  · replace hg := (if_pos hc).symm.trans hg
    refine rf_seg C [(.iload 0, 1)] (pc' := 10) (S' := ([(0, .int a0)], [.int a0], rf_MM w m)) (by decide +kernel) rfl trivial ?_
    obtain rfl := Option.some.inj hg
    exact rf_iret C hE (by decide +kernel)
  · replace hg := (if_neg hc).symm.trans hg
    refine rf_seg C [(.iload 0, 1), (.ineg, 1)] (pc' := 6) (S' := ([(0, .int a0)], [.int (-a0)], rf_MM w m)) (by decide +kernel) rfl trivial ?_
    refine rf_goto C 4 10 (by decide +kernel) ?_
    obtain rfl := Option.some.inj hg
    exact rf_iret C hE (by decide +kernel)
-- X7_isBeyond
abbrev j_X7_isBeyond : rf_J := (7, yX7_isBeyond, cX7_isBeyond, 2, (some .boolean))
theorem mw_X7_isBeyond : rf_ms j_X7_isBeyond 2 := ⟨⟨rf_mem 63 (by decide +kernel), rf_mem 1 (by decide +kernel), rf_mem 63 (by decide +kernel)⟩, by decide +kernel, by decide⟩
def g_X7_isBeyond (w : rf_w) (m : rf_m) (a0 : Int32) (a1 : Int32) : Option (Int32 × rf_m) := (if a0 = ((-2147483648)) then some (0, m) else rf_b (g_abs w m a0) fun y0 m0 => (if y0 ≤ a1 then some (0, m0) else some (1, m0)))
theorem c_X7_isBeyond {w : rf_w} {m : rf_m} {a0 : Int32} {a1 : Int32} {r : Int32 × rf_m} (hg : g_X7_isBeyond w m a0 a1 = some r) : rf_Con j_X7_isBeyond 2 (rf_sh w) [.int a0, .int a1] (rf_MM w m) (some (.int r.1)) (rf_MM w r.2) := by
  refine rf_con j_X7_isBeyond 2 ⟨by decide +kernel, rfl, Nat.le_of_ble_eq_true rfl⟩ (fun K C hE => ?_)
  unfold g_X7_isBeyond at hg
  show rf_V 2 (rf_sh w) K 0 0 0 ([(0, .int a0), (1, .int a1)], [], rf_MM w m)
  refine rf_seg C [(.iload 0, 1), (.iconst (-2147483648), 2)] (pc' := 3) (S' := ([(0, .int a0), (1, .int a1)], [.int ((-2147483648)), .int a0], rf_MM w m)) (by decide +kernel) rfl trivial ?_
  refine rf_icmp_eq C 15 18 (by decide +kernel) (fun hc => ?_) (fun hc => ?_)
  · replace hg := (if_pos hc).symm.trans hg
    refine rf_seg C [(.iconst 0, 1)] (pc' := 19) (S' := ([(0, .int a0), (1, .int a1)], [.int 0], rf_MM w m)) (by decide +kernel) rfl trivial ?_
    obtain rfl := Option.some.inj hg
    exact rf_zret C hE (by decide) (by decide +kernel)
  · replace hg := (if_neg hc).symm.trans hg
    refine rf_seg C [(.iload 0, 1)] (pc' := 7) (S' := ([(0, .int a0), (1, .int a1)], [.int a0], rf_MM w m)) (by decide +kernel) rfl trivial ?_
    obtain ⟨y0, m0, hc0, hg⟩ := rf_b_some hg
    refine rf_calls C rf_fit0 j_abs (As := [.int a0]) (rest := []) mw_abs (c_abs hc0) (by decide) lk_7_81 rfl rfl (Nat.le_of_ble_eq_true rfl) (by decide +kernel) ?_
    show rf_V 2 (rf_sh w) K 0 0 10 ([(0, .int a0), (1, .int a1)], [.int y0], rf_MM w m0)
    refine rf_seg C [(.iload 1, 1)] (pc' := 11) (S' := ([(0, .int a0), (1, .int a1)], [.int a1, .int y0], rf_MM w m0)) (by decide +kernel) rfl trivial ?_
    refine rf_icmp_le C 7 18 (by decide +kernel) (fun hc => ?_) (fun hc => ?_)
    · replace hg := (if_pos hc).symm.trans hg
      refine rf_seg C [(.iconst 0, 1)] (pc' := 19) (S' := ([(0, .int a0), (1, .int a1)], [.int 0], rf_MM w m0)) (by decide +kernel) rfl trivial ?_
      obtain rfl := Option.some.inj hg
      exact rf_zret C hE (by decide) (by decide +kernel)
    · replace hg := (if_neg hc).symm.trans hg
      refine rf_seg C [(.iconst 1, 1)] (pc' := 15) (S' := ([(0, .int a0), (1, .int a1)], [.int 1], rf_MM w m0)) (by decide +kernel) rfl trivial ?_
      refine rf_goto C 4 19 (by decide +kernel) ?_
      obtain rfl := Option.some.inj hg
      exact rf_zret C hE (by decide) (by decide +kernel)
-- X7_isAllWithin__192
abbrev j_X7_isAllWithin__192 : rf_J := (7, yX7_isAllWithin, cX7_isAllWithin, 6, (some .boolean))
theorem mw_X7_isAllWithin__192 : rf_mv j_X7_isAllWithin__192 (rf_R 7) 2 := ⟨⟨rf_mem 86 (by decide +kernel), rf_mem 86 (by decide +kernel), rf_mem 1 (by decide +kernel), rf_mem 86 (by decide +kernel)⟩, by decide +kernel, by decide⟩
def g_X7_isAllWithin__192_75 (w : rf_w) (rec31 : Int32 → Int32 → Int32 → Int32 → rf_m → Option (Int32 × rf_m)) (a2 : Int32) (a3 : Int32) (a5 : Int32) (s0 : Int32) (m : rf_m) : Option (Int32 × rf_m) := rec31 a2 a3 s0 (a5 + 1) m
def g_X7_isAllWithin__192_31_b (w : rf_w) (rec31 : Int32 → Int32 → Int32 → Int32 → rf_m → Option (Int32 × rf_m)) (a2 : Int32) (a3 : Int32) (a4 : Int32) (a5 : Int32) (m : rf_m) : Option (Int32 × rf_m) := (if a3 ≤ a5 then some (1, m) else rf_b (g_X7_missOf__192 w m a4) fun y0 m0 => rf_b (g_X7_isBeyond w m0 y0 a2) fun y1 m1 => (if y1 = 0 then (if a3 ≤ (a4 + 1) then g_X7_isAllWithin__192_75 w rec31 a2 a3 a5 0 m1 else g_X7_isAllWithin__192_75 w rec31 a2 a3 a5 (a4 + 1) m1) else some (0, rf_i m1 50 7 a4)))
def g_X7_isAllWithin__192_31 (w : rf_w) : Nat → Int32 → Int32 → Int32 → Int32 → rf_m → Option (Int32 × rf_m)
  | 0, _, _, _, _, _ => none
  | n + 1, a2, a3, a4, a5, m => g_X7_isAllWithin__192_31_b w (g_X7_isAllWithin__192_31 w n) a2 a3 a4 a5 m
def g_X7_isAllWithin__192_26 (w : rf_w) (a2 : Int32) (a3 : Int32) (s0 : Int32) (m : rf_m) : Option (Int32 × rf_m) := g_X7_isAllWithin__192_31 w rf_fuel a2 a3 s0 0 m
def g_X7_isAllWithin__192 (w : rf_w) (m : rf_m) (a2 : Int32) : Option (Int32 × rf_m) := (if ((m.1 50 0) + (m.1 50 1)) ≤ (m.1 50 7) then g_X7_isAllWithin__192_26 w a2 ((m.1 50 0) + (m.1 50 1)) 0 m else g_X7_isAllWithin__192_26 w a2 ((m.1 50 0) + (m.1 50 1)) (m.1 50 7) m)
theorem s_X7_isAllWithin__192_75 {w : rf_w} {K : rf_K} {r : Int32 × rf_m} (C : rf_Ctx 7 cX7_isAllWithin 6 4 (rf_sh w) K) (hE : rf_End (some .boolean) K (rf_sh w) 0 0 (some (.int r.1)) (rf_MM w r.2)) {rec31 : Int32 → Int32 → Int32 → Int32 → rf_m → Option (Int32 × rf_m)} (hr31 : ∀ (a2 : Int32) (a3 : Int32) (a4 : Int32) (a5 : Int32) (m : rf_m), rec31 a2 a3 a4 a5 m = some r → rf_V 6 (rf_sh w) K 0 0 31 ([(0, .ref 50), (1, .ref 192), (2, .int a2), (3, .int a3), (4, .int a4), (5, .int a5)], [], rf_MM w m)) (a2 : Int32) (a3 : Int32) (a5 : Int32) (s0 : Int32) (m : rf_m) (hg : g_X7_isAllWithin__192_75 w rec31 a2 a3 a5 s0 m = some r) : rf_V 6 (rf_sh w) K 0 0 75 ([(0, .ref 50), (1, .ref 192), (2, .int a2), (3, .int a3), (5, .int a5)], [.int s0], rf_MM w m) := by
  unfold g_X7_isAllWithin__192_75 at hg
  refine rf_seg C [(.istore 4, 2), (.iinc 5 1, 3)] (pc' := 80) (S' := ([(5, .int (a5 + 1)), (4, .int s0), (0, .ref 50), (1, .ref 192), (2, .int a2), (3, .int a3)], [], rf_MM w m)) (by decide +kernel) rfl trivial ?_
  refine rf_goto C (-49) 31 (by decide +kernel) ?_
  refine rf_few [2, 3, 4, 5, 1, 0] rfl ?_
  exact hr31 a2 a3 s0 (a5 + 1) m hg
theorem s_X7_isAllWithin__192_31_b {w : rf_w} {K : rf_K} {r : Int32 × rf_m} (C : rf_Ctx 7 cX7_isAllWithin 6 4 (rf_sh w) K) (hE : rf_End (some .boolean) K (rf_sh w) 0 0 (some (.int r.1)) (rf_MM w r.2)) {rec31 : Int32 → Int32 → Int32 → Int32 → rf_m → Option (Int32 × rf_m)} (hr31 : ∀ (a2 : Int32) (a3 : Int32) (a4 : Int32) (a5 : Int32) (m : rf_m), rec31 a2 a3 a4 a5 m = some r → rf_V 6 (rf_sh w) K 0 0 31 ([(0, .ref 50), (1, .ref 192), (2, .int a2), (3, .int a3), (4, .int a4), (5, .int a5)], [], rf_MM w m)) (a2 : Int32) (a3 : Int32) (a4 : Int32) (a5 : Int32) (m : rf_m) (hg : g_X7_isAllWithin__192_31_b w rec31 a2 a3 a4 a5 m = some r) : rf_V 6 (rf_sh w) K 0 0 31 ([(0, .ref 50), (1, .ref 192), (2, .int a2), (3, .int a3), (4, .int a4), (5, .int a5)], [], rf_MM w m) := by
  unfold g_X7_isAllWithin__192_31_b at hg
  refine rf_seg C [(.iload 5, 2), (.iload 3, 1)] (pc' := 34) (S' := ([(0, .ref 50), (1, .ref 192), (2, .int a2), (3, .int a3), (4, .int a4), (5, .int a5)], [.int a3, .int a5], rf_MM w m)) (by decide +kernel) rfl trivial ?_
  refine rf_icmp_ge C 49 83 (by decide +kernel) (fun hc => ?_) (fun hc => ?_)
  · replace hg := (if_pos hc).symm.trans hg
    refine rf_seg C [(.iconst 1, 1)] (pc' := 84) (S' := ([(0, .ref 50), (1, .ref 192), (2, .int a2), (3, .int a3), (4, .int a4), (5, .int a5)], [.int 1], rf_MM w m)) (by decide +kernel) rfl trivial ?_
    obtain rfl := Option.some.inj hg
    exact rf_zret C hE (by decide) (by decide +kernel)
  · replace hg := (if_neg hc).symm.trans hg
    refine rf_seg C [(.aload 0, 1), (.iload 4, 2), (.aload 1, 1)] (pc' := 41) (S' := ([(0, .ref 50), (1, .ref 192), (2, .int a2), (3, .int a3), (4, .int a4), (5, .int a5)], [.ref 192, .int a4, .ref 50], rf_MM w m)) (by decide +kernel) rfl trivial ?_
    obtain ⟨y0, m0, hc0, hg⟩ := rf_b_some hg
    refine rf_callv C rf_fit0 j_X7_missOf__192 (ci := 7) (As := [.int a4, .ref 192]) (rest := []) mw_X7_missOf__192 (c_X7_missOf__192 hc0) (by decide) rfl (by decide) lk_7_90 rfl rfl (Nat.le_of_ble_eq_true rfl) (by decide +kernel) ?_
    show rf_V 6 (rf_sh w) K 0 0 44 ([(0, .ref 50), (1, .ref 192), (2, .int a2), (3, .int a3), (4, .int a4), (5, .int a5)], [.int y0], rf_MM w m0)
    refine rf_seg C [(.iload 2, 1)] (pc' := 45) (S' := ([(0, .ref 50), (1, .ref 192), (2, .int a2), (3, .int a3), (4, .int a4), (5, .int a5)], [.int a2, .int y0], rf_MM w m0)) (by decide +kernel) rfl trivial ?_
    obtain ⟨y1, m1, hc1, hg⟩ := rf_b_some hg
    refine rf_calls C rf_fit0 j_X7_isBeyond (As := [.int y0, .int a2]) (rest := []) mw_X7_isBeyond (c_X7_isBeyond hc1) (by decide) lk_7_93 rfl rfl (Nat.le_of_ble_eq_true rfl) (by decide +kernel) ?_
    show rf_V 6 (rf_sh w) K 0 0 48 ([(0, .ref 50), (1, .ref 192), (2, .int a2), (3, .int a3), (4, .int a4), (5, .int a5)], [.int y1], rf_MM w m1)
    refine rf_if_eq C 11 59 (by decide +kernel) (fun hc => ?_) (fun hc => ?_)
    · replace hg := (if_pos hc).symm.trans hg
      refine rf_seg C [(.iload 4, 2), (.iconst 1, 1), (.iadd, 1), (.iload 3, 1)] (pc' := 64) (S' := ([(0, .ref 50), (1, .ref 192), (2, .int a2), (3, .int a3), (4, .int a4), (5, .int a5)], [.int a3, .int (a4 + 1)], rf_MM w m1)) (by decide +kernel) rfl trivial ?_
      refine rf_icmp_ge C 10 74 (by decide +kernel) (fun hc => ?_) (fun hc => ?_)
      · replace hg := (if_pos hc).symm.trans hg
        refine rf_seg C [(.iconst 0, 1)] (pc' := 75) (S' := ([(0, .ref 50), (1, .ref 192), (2, .int a2), (3, .int a3), (4, .int a4), (5, .int a5)], [.int 0], rf_MM w m1)) (by decide +kernel) rfl trivial ?_
        refine rf_few [0, 1, 2, 3, 5] rfl ?_
        exact s_X7_isAllWithin__192_75 C hE hr31 a2 a3 a5 0 m1 hg
      · replace hg := (if_neg hc).symm.trans hg
        refine rf_seg C [(.iload 4, 2), (.iconst 1, 1), (.iadd, 1)] (pc' := 71) (S' := ([(0, .ref 50), (1, .ref 192), (2, .int a2), (3, .int a3), (4, .int a4), (5, .int a5)], [.int (a4 + 1)], rf_MM w m1)) (by decide +kernel) rfl trivial ?_
        refine rf_goto C 4 75 (by decide +kernel) ?_
        refine rf_few [0, 1, 2, 3, 5] rfl ?_
        exact s_X7_isAllWithin__192_75 C hE hr31 a2 a3 a5 (a4 + 1) m1 hg
    · replace hg := (if_neg hc).symm.trans hg
      refine rf_seg C [(.aload 0, 1), (.iload 4, 2), (.multianewarray 7 7, 3), (.iconst 0, 1)] (pc' := 58) (S' := ([(0, .ref 50), (1, .ref 192), (2, .int a2), (3, .int a3), (4, .int a4), (5, .int a5)], [.int 0], rf_MM w (rf_i m1 50 7 a4))) (by decide +kernel) rfl trivial ?_
      obtain rfl := Option.some.inj hg
      exact rf_zret C hE (by decide) (by decide +kernel)
theorem s_X7_isAllWithin__192_31 {w : rf_w} {K : rf_K} {r : Int32 × rf_m} (C : rf_Ctx 7 cX7_isAllWithin 6 4 (rf_sh w) K) (hE : rf_End (some .boolean) K (rf_sh w) 0 0 (some (.int r.1)) (rf_MM w r.2)) (n : Nat) : ∀ (a2 : Int32) (a3 : Int32) (a4 : Int32) (a5 : Int32) (m : rf_m), g_X7_isAllWithin__192_31 w n a2 a3 a4 a5 m = some r → rf_V 6 (rf_sh w) K 0 0 31 ([(0, .ref 50), (1, .ref 192), (2, .int a2), (3, .int a3), (4, .int a4), (5, .int a5)], [], rf_MM w m) := by
  induction n with
  | zero => intro a2 a3 a4 a5 m hg; cases hg
  | succ n ih => intro a2 a3 a4 a5 m hg; exact s_X7_isAllWithin__192_31_b C hE ih a2 a3 a4 a5 m hg
theorem s_X7_isAllWithin__192_26 {w : rf_w} {K : rf_K} {r : Int32 × rf_m} (C : rf_Ctx 7 cX7_isAllWithin 6 4 (rf_sh w) K) (hE : rf_End (some .boolean) K (rf_sh w) 0 0 (some (.int r.1)) (rf_MM w r.2)) (a2 : Int32) (a3 : Int32) (s0 : Int32) (m : rf_m) (hg : g_X7_isAllWithin__192_26 w a2 a3 s0 m = some r) : rf_V 6 (rf_sh w) K 0 0 26 ([(0, .ref 50), (1, .ref 192), (2, .int a2), (3, .int a3)], [.int s0], rf_MM w m) := by
  unfold g_X7_isAllWithin__192_26 at hg
  refine rf_seg C [(.istore 4, 2), (.iconst 0, 1), (.istore 5, 2)] (pc' := 31) (S' := ([(5, .int 0), (4, .int s0), (0, .ref 50), (1, .ref 192), (2, .int a2), (3, .int a3)], [], rf_MM w m)) (by decide +kernel) rfl trivial ?_
  refine rf_few [2, 3, 4, 5, 1, 0] rfl ?_
  exact s_X7_isAllWithin__192_31 C hE rf_fuel a2 a3 s0 0 m hg
theorem c_X7_isAllWithin__192 {w : rf_w} {m : rf_m} {a2 : Int32} {r : Int32 × rf_m} (hg : g_X7_isAllWithin__192 w m a2 = some r) : rf_Con j_X7_isAllWithin__192 4 (rf_sh w) [.ref 50, .ref 192, .int a2] (rf_MM w m) (some (.int r.1)) (rf_MM w r.2) := by
  refine rf_con j_X7_isAllWithin__192 4 ⟨by decide +kernel, rfl, Nat.le_of_ble_eq_true rfl⟩ (fun K C hE => ?_)
  unfold g_X7_isAllWithin__192 at hg
  show rf_V 6 (rf_sh w) K 0 0 0 ([(0, .ref 50), (1, .ref 192), (2, .int a2)], [], rf_MM w m)
  refine rf_seg C [(.aload 0, 1), (.invokeinterface 7 0, 3), (.aload 0, 1), (.invokeinterface 7 1, 3), (.iadd, 1), (.istore 3, 1), (.aload 0, 1), (.invokeinterface 7 7, 3), (.iload 3, 1)] (pc' := 15) (S' := ([(3, .int ((m.1 50 0) + (m.1 50 1))), (0, .ref 50), (1, .ref 192), (2, .int a2)], [.int ((m.1 50 0) + (m.1 50 1)), .int (m.1 50 7)], rf_MM w m)) (by decide +kernel) rfl trivial ?_
  refine rf_icmp_ge C 10 25 (by decide +kernel) (fun hc => ?_) (fun hc => ?_)
  · replace hg := (if_pos hc).symm.trans hg
    refine rf_seg C [(.iconst 0, 1)] (pc' := 26) (S' := ([(3, .int ((m.1 50 0) + (m.1 50 1))), (0, .ref 50), (1, .ref 192), (2, .int a2)], [.int 0], rf_MM w m)) (by decide +kernel) rfl trivial ?_
    refine rf_few [1, 2, 3, 0] rfl ?_
    exact s_X7_isAllWithin__192_26 C hE a2 ((m.1 50 0) + (m.1 50 1)) 0 m hg
  · replace hg := (if_neg hc).symm.trans hg
    refine rf_seg C [(.aload 0, 1), (.invokeinterface 7 7, 3)] (pc' := 22) (S' := ([(3, .int ((m.1 50 0) + (m.1 50 1))), (0, .ref 50), (1, .ref 192), (2, .int a2)], [.int (m.1 50 7)], rf_MM w m)) (by decide +kernel) rfl trivial ?_
    refine rf_goto C 4 26 (by decide +kernel) ?_
    refine rf_few [1, 2, 3, 0] rfl ?_
    exact s_X7_isAllWithin__192_26 C hE a2 ((m.1 50 0) + (m.1 50 1)) (m.1 50 7) m hg
-- X2_keepFirst
abbrev j_X2_keepFirst : rf_J := (2, yX2_keepFirst, cX2_keepFirst, 3, none)
theorem mw_X2_keepFirst : rf_mv j_X2_keepFirst (rf_R 2) 1 := ⟨⟨rf_mem 86 (by decide +kernel), rf_mem 86 (by decide +kernel), rf_mem 1 (by decide +kernel), rf_mem 86 (by decide +kernel)⟩, by decide +kernel, by decide⟩
def g_X2_keepFirst_2_b (w : rf_w) (rec2 : Int32 → Int32 → rf_m → Option (rf_m)) (a1 : Int32) (a2 : Int32) (m : rf_m) : Option (rf_m) := (if a1 ≤ a2 then some m else rf_g (rf_in a2 12) (rf_g (rf_in (m.1 188 (Int32.toNatClampNeg a2)) 12) (rf_g (rf_in a2 12) (rec2 a1 (a2 + 1) (rf_i m 189 (Int32.toNatClampNeg a2) (m.1 187 (Int32.toNatClampNeg (m.1 188 (Int32.toNatClampNeg a2)))))))))
def g_X2_keepFirst_2 (w : rf_w) : Nat → Int32 → Int32 → rf_m → Option (rf_m)
  | 0, _, _, _ => none
  | n + 1, a1, a2, m => g_X2_keepFirst_2_b w (g_X2_keepFirst_2 w n) a1 a2 m
def g_X2_keepFirst (w : rf_w) (m : rf_m) (a1 : Int32) : Option (rf_m) := g_X2_keepFirst_2 w rf_fuel a1 0 m
theorem s_X2_keepFirst_2_b {w : rf_w} {K : rf_K} {r : rf_m} (C : rf_Ctx 2 cX2_keepFirst 3 1 (rf_sh w) K) (hE : rf_End none K (rf_sh w) 0 0 none (rf_MM w r)) {rec2 : Int32 → Int32 → rf_m → Option (rf_m)} (hr2 : ∀ (a1 : Int32) (a2 : Int32) (m : rf_m), rec2 a1 a2 m = some r → rf_V 3 (rf_sh w) K 0 0 2 ([(0, .ref 184), (1, .int a1), (2, .int a2)], [], rf_MM w m)) (a1 : Int32) (a2 : Int32) (m : rf_m) (hg : g_X2_keepFirst_2_b w rec2 a1 a2 m = some r) : rf_V 3 (rf_sh w) K 0 0 2 ([(0, .ref 184), (1, .int a1), (2, .int a2)], [], rf_MM w m) := by
  unfold g_X2_keepFirst_2_b at hg
  refine rf_seg C [(.iload 2, 1), (.iload 1, 1)] (pc' := 4) (S' := ([(0, .ref 184), (1, .int a1), (2, .int a2)], [.int a1, .int a2], rf_MM w m)) (by decide +kernel) rfl trivial ?_
  refine rf_icmp_ge C 26 30 (by decide +kernel) (fun hc => ?_) (fun hc => ?_)
  · replace hg := (if_pos hc).symm.trans hg
    obtain rfl := Option.some.inj hg
    exact rf_vret C hE (by decide +kernel)
  · replace hg := (if_neg hc).symm.trans hg
    obtain ⟨q0, hg⟩ := rf_g_some hg
    obtain ⟨q1, hg⟩ := rf_g_some hg
    obtain ⟨q2, hg⟩ := rf_g_some hg
    refine rf_seg C [(.aload 0, 1), (.invokeinterface 2 10, 3), (.iload 2, 1), (.aload 0, 1), (.invokeinterface 2 7, 3), (.aload 0, 1), (.invokeinterface 2 9, 3), (.iload 2, 1), (.iaload, 1), (.iaload, 1), (.iastore, 1), (.iinc 2 1, 3)] (pc' := 27) (S' := ([(2, .int (a2 + 1)), (0, .ref 184), (1, .int a1)], [], rf_MM w (rf_i m 189 (Int32.toNatClampNeg a2) (m.1 187 (Int32.toNatClampNeg (m.1 188 (Int32.toNatClampNeg a2))))))) (by decide +kernel) rfl (by exact ⟨(rf_in_of q0), (rf_in_of q1), (rf_in_of q2)⟩) ?_
    refine rf_goto C (-25) 2 (by decide +kernel) ?_
    refine rf_few [1, 2, 0] rfl ?_
    exact hr2 a1 (a2 + 1) (rf_i m 189 (Int32.toNatClampNeg a2) (m.1 187 (Int32.toNatClampNeg (m.1 188 (Int32.toNatClampNeg a2))))) hg
theorem s_X2_keepFirst_2 {w : rf_w} {K : rf_K} {r : rf_m} (C : rf_Ctx 2 cX2_keepFirst 3 1 (rf_sh w) K) (hE : rf_End none K (rf_sh w) 0 0 none (rf_MM w r)) (n : Nat) : ∀ (a1 : Int32) (a2 : Int32) (m : rf_m), g_X2_keepFirst_2 w n a1 a2 m = some r → rf_V 3 (rf_sh w) K 0 0 2 ([(0, .ref 184), (1, .int a1), (2, .int a2)], [], rf_MM w m) := by
  induction n with
  | zero => intro a1 a2 m hg; cases hg
  | succ n ih => intro a1 a2 m hg; exact s_X2_keepFirst_2_b C hE ih a1 a2 m hg
theorem c_X2_keepFirst {w : rf_w} {m : rf_m} {a1 : Int32} {r : rf_m} (hg : g_X2_keepFirst w m a1 = some r) : rf_Con j_X2_keepFirst 1 (rf_sh w) [.ref 184, .int a1] (rf_MM w m) none (rf_MM w r) := by
  refine rf_con j_X2_keepFirst 1 ⟨by decide +kernel, rfl, Nat.le_of_ble_eq_true rfl⟩ (fun K C hE => ?_)
  unfold g_X2_keepFirst at hg
  show rf_V 3 (rf_sh w) K 0 0 0 ([(0, .ref 184), (1, .int a1)], [], rf_MM w m)
  refine rf_seg C [(.iconst 0, 1), (.istore 2, 1)] (pc' := 2) (S' := ([(2, .int 0), (0, .ref 184), (1, .int a1)], [], rf_MM w m)) (by decide +kernel) rfl trivial ?_
  refine rf_few [1, 2, 0] rfl ?_
  exact s_X2_keepFirst_2 C hE rf_fuel a1 0 m hg
-- X2_countSets
abbrev j_X2_countSets : rf_J := (2, yX2_countSets, cX2_countSets, 6, (some .int))
theorem mw_X2_countSets : rf_mv j_X2_countSets (rf_R 2) 2 := ⟨⟨rf_mem 85 (by decide +kernel), rf_mem 85 (by decide +kernel), rf_mem 1 (by decide +kernel), rf_mem 85 (by decide +kernel)⟩, by decide +kernel, by decide⟩
def g_X2_countSets_76 (w : rf_w) (rec28 : Int32 → Int32 → Int32 → Int32 → Int32 → rf_m → Option (Int32 × rf_m)) (a1 : Int32) (a2 : Int32) (a3 : Int32) (a5 : Int32) (m : rf_m) : Option (Int32 × rf_m) := rf_b (g_X2_pickNext w m a1) fun y0 m0 => rec28 a1 a2 a3 y0 (a5 + 1) m0
def g_X2_countSets_73 (w : rf_w) (rec28 : Int32 → Int32 → Int32 → Int32 → Int32 → rf_m → Option (Int32 × rf_m)) (a1 : Int32) (a2 : Int32) (a3 : Int32) (a5 : Int32) (m : rf_m) : Option (Int32 × rf_m) := g_X2_countSets_76 w rec28 a1 a2 (a3 + 1) a5 m
def g_X2_countSets_28_b (w : rf_w) (rec28 : Int32 → Int32 → Int32 → Int32 → Int32 → rf_m → Option (Int32 × rf_m)) (a1 : Int32) (a2 : Int32) (a3 : Int32) (a4 : Int32) (a5 : Int32) (m : rf_m) : Option (Int32 × rf_m) := (if 4096 ≤ a5 then some (a3, m) else (if a4 = 0 then some (a3, m) else rf_b (g_X2_strikesOut w m a1) fun y0 m0 => (if y0 = 0 then g_X2_countSets_76 w rec28 a1 a2 a3 a5 m0 else rf_b (g_X7_isAllWithin__192 w m0 a2) fun y1 m1 => (if y1 = 0 then g_X2_countSets_76 w rec28 a1 a2 a3 a5 m1 else (if a3 = 0 then rf_bv (g_X2_keepFirst w m1 a1) fun m2 => g_X2_countSets_73 w rec28 a1 a2 a3 a5 m2 else g_X2_countSets_73 w rec28 a1 a2 a3 a5 m1)))))
def g_X2_countSets_28 (w : rf_w) : Nat → Int32 → Int32 → Int32 → Int32 → Int32 → rf_m → Option (Int32 × rf_m)
  | 0, _, _, _, _, _, _ => none
  | n + 1, a1, a2, a3, a4, a5, m => g_X2_countSets_28_b w (g_X2_countSets_28 w n) a1 a2 a3 a4 a5 m
def g_X2_countSets_2_b (w : rf_w) (rec2 : Int32 → Int32 → Int32 → rf_m → Option (Int32 × rf_m)) (a1 : Int32) (a2 : Int32) (a3 : Int32) (m : rf_m) : Option (Int32 × rf_m) := (if a1 ≤ a3 then g_X2_countSets_28 w rf_fuel a1 a2 0 1 0 m else rf_g (rf_in a3 12) (rec2 a1 a2 (a3 + 1) (rf_i m 188 (Int32.toNatClampNeg a3) a3)))
def g_X2_countSets_2 (w : rf_w) : Nat → Int32 → Int32 → Int32 → rf_m → Option (Int32 × rf_m)
  | 0, _, _, _, _ => none
  | n + 1, a1, a2, a3, m => g_X2_countSets_2_b w (g_X2_countSets_2 w n) a1 a2 a3 m
def g_X2_countSets (w : rf_w) (m : rf_m) (a1 : Int32) (a2 : Int32) : Option (Int32 × rf_m) := g_X2_countSets_2 w rf_fuel a1 a2 0 m
theorem s_X2_countSets_76 {w : rf_w} {K : rf_K} {r : Int32 × rf_m} (C : rf_Ctx 2 cX2_countSets 6 5 (rf_sh w) K) (hE : rf_End (some .int) K (rf_sh w) 0 0 (some (.int r.1)) (rf_MM w r.2)) {rec28 : Int32 → Int32 → Int32 → Int32 → Int32 → rf_m → Option (Int32 × rf_m)} (hr28 : ∀ (a1 : Int32) (a2 : Int32) (a3 : Int32) (a4 : Int32) (a5 : Int32) (m : rf_m), rec28 a1 a2 a3 a4 a5 m = some r → rf_V 6 (rf_sh w) K 0 0 28 ([(0, .ref 184), (1, .int a1), (2, .int a2), (3, .int a3), (4, .int a4), (5, .int a5)], [], rf_MM w m)) (a1 : Int32) (a2 : Int32) (a3 : Int32) (a5 : Int32) (m : rf_m) (hg : g_X2_countSets_76 w rec28 a1 a2 a3 a5 m = some r) : rf_V 6 (rf_sh w) K 0 0 76 ([(0, .ref 184), (1, .int a1), (2, .int a2), (3, .int a3), (5, .int a5)], [], rf_MM w m) := by
  unfold g_X2_countSets_76 at hg
  refine rf_seg C [(.aload 0, 1), (.iload 1, 1)] (pc' := 78) (S' := ([(0, .ref 184), (1, .int a1), (2, .int a2), (3, .int a3), (5, .int a5)], [.int a1, .ref 184], rf_MM w m)) (by decide +kernel) rfl trivial ?_
  obtain ⟨y0, m0, hc0, hg⟩ := rf_b_some hg
  refine rf_callv C rf_fit0 j_X2_pickNext (ci := 2) (As := [.int a1]) (rest := []) mw_X2_pickNext (c_X2_pickNext hc0) (by decide) rfl (by decide) lk_2_92 rfl rfl (Nat.le_of_ble_eq_true rfl) (by decide +kernel) ?_
  show rf_V 6 (rf_sh w) K 0 0 81 ([(0, .ref 184), (1, .int a1), (2, .int a2), (3, .int a3), (5, .int a5)], [.int y0], rf_MM w m0)
  refine rf_seg C [(.istore 4, 2), (.iinc 5 1, 3)] (pc' := 86) (S' := ([(5, .int (a5 + 1)), (4, .int y0), (0, .ref 184), (1, .int a1), (2, .int a2), (3, .int a3)], [], rf_MM w m0)) (by decide +kernel) rfl trivial ?_
  refine rf_goto C (-58) 28 (by decide +kernel) ?_
  refine rf_few [2, 3, 4, 5, 1, 0] rfl ?_
  exact hr28 a1 a2 a3 y0 (a5 + 1) m0 hg
theorem s_X2_countSets_73 {w : rf_w} {K : rf_K} {r : Int32 × rf_m} (C : rf_Ctx 2 cX2_countSets 6 5 (rf_sh w) K) (hE : rf_End (some .int) K (rf_sh w) 0 0 (some (.int r.1)) (rf_MM w r.2)) {rec28 : Int32 → Int32 → Int32 → Int32 → Int32 → rf_m → Option (Int32 × rf_m)} (hr28 : ∀ (a1 : Int32) (a2 : Int32) (a3 : Int32) (a4 : Int32) (a5 : Int32) (m : rf_m), rec28 a1 a2 a3 a4 a5 m = some r → rf_V 6 (rf_sh w) K 0 0 28 ([(0, .ref 184), (1, .int a1), (2, .int a2), (3, .int a3), (4, .int a4), (5, .int a5)], [], rf_MM w m)) (a1 : Int32) (a2 : Int32) (a3 : Int32) (a5 : Int32) (m : rf_m) (hg : g_X2_countSets_73 w rec28 a1 a2 a3 a5 m = some r) : rf_V 6 (rf_sh w) K 0 0 73 ([(0, .ref 184), (1, .int a1), (2, .int a2), (3, .int a3), (5, .int a5)], [], rf_MM w m) := by
  unfold g_X2_countSets_73 at hg
  refine rf_seg C [(.iinc 3 1, 3)] (pc' := 76) (S' := ([(3, .int (a3 + 1)), (0, .ref 184), (1, .int a1), (2, .int a2), (5, .int a5)], [], rf_MM w m)) (by decide +kernel) rfl trivial ?_
  refine rf_few [1, 2, 3, 0, 4] rfl ?_
  exact s_X2_countSets_76 C hE hr28 a1 a2 (a3 + 1) a5 m hg
theorem s_X2_countSets_28_b {w : rf_w} {K : rf_K} {r : Int32 × rf_m} (C : rf_Ctx 2 cX2_countSets 6 5 (rf_sh w) K) (hE : rf_End (some .int) K (rf_sh w) 0 0 (some (.int r.1)) (rf_MM w r.2)) {rec28 : Int32 → Int32 → Int32 → Int32 → Int32 → rf_m → Option (Int32 × rf_m)} (hr28 : ∀ (a1 : Int32) (a2 : Int32) (a3 : Int32) (a4 : Int32) (a5 : Int32) (m : rf_m), rec28 a1 a2 a3 a4 a5 m = some r → rf_V 6 (rf_sh w) K 0 0 28 ([(0, .ref 184), (1, .int a1), (2, .int a2), (3, .int a3), (4, .int a4), (5, .int a5)], [], rf_MM w m)) (a1 : Int32) (a2 : Int32) (a3 : Int32) (a4 : Int32) (a5 : Int32) (m : rf_m) (hg : g_X2_countSets_28_b w rec28 a1 a2 a3 a4 a5 m = some r) : rf_V 6 (rf_sh w) K 0 0 28 ([(0, .ref 184), (1, .int a1), (2, .int a2), (3, .int a3), (4, .int a4), (5, .int a5)], [], rf_MM w m) := by
  unfold g_X2_countSets_28_b at hg
  refine rf_seg C [(.iload 5, 2), (.iconst 4096, 3)] (pc' := 33) (S' := ([(0, .ref 184), (1, .int a1), (2, .int a2), (3, .int a3), (4, .int a4), (5, .int a5)], [.int 4096, .int a5], rf_MM w m)) (by decide +kernel) rfl trivial ?_
  refine rf_icmp_ge C 56 89 (by decide +kernel) (fun hc => ?_) (fun hc => ?_)
  · replace hg := (if_pos hc).symm.trans hg
    refine rf_seg C [(.iload 3, 1)] (pc' := 90) (S' := ([(0, .ref 184), (1, .int a1), (2, .int a2), (3, .int a3), (4, .int a4), (5, .int a5)], [.int a3], rf_MM w m)) (by decide +kernel) rfl trivial ?_
    obtain rfl := Option.some.inj hg
    exact rf_iret C hE (by decide +kernel)
  · replace hg := (if_neg hc).symm.trans hg
    refine rf_seg C [(.iload 4, 2)] (pc' := 38) (S' := ([(0, .ref 184), (1, .int a1), (2, .int a2), (3, .int a3), (4, .int a4), (5, .int a5)], [.int a4], rf_MM w m)) (by decide +kernel) rfl trivial ?_
    refine rf_if_eq C 51 89 (by decide +kernel) (fun hc => ?_) (fun hc => ?_)
    · replace hg := (if_pos hc).symm.trans hg
      refine rf_seg C [(.iload 3, 1)] (pc' := 90) (S' := ([(0, .ref 184), (1, .int a1), (2, .int a2), (3, .int a3), (4, .int a4), (5, .int a5)], [.int a3], rf_MM w m)) (by decide +kernel) rfl trivial ?_
      obtain rfl := Option.some.inj hg
      exact rf_iret C hE (by decide +kernel)
    · replace hg := (if_neg hc).symm.trans hg
      refine rf_seg C [(.aload 0, 1), (.iload 1, 1)] (pc' := 43) (S' := ([(0, .ref 184), (1, .int a1), (2, .int a2), (3, .int a3), (4, .int a4), (5, .int a5)], [.int a1, .ref 184], rf_MM w m)) (by decide +kernel) rfl trivial ?_
      obtain ⟨y0, m0, hc0, hg⟩ := rf_b_some hg
      refine rf_callv C rf_fit0 j_X2_strikesOut (ci := 2) (As := [.int a1]) (rest := []) mw_X2_strikesOut (c_X2_strikesOut hc0) (by decide) rfl (by decide) lk_2_79 rfl rfl (Nat.le_of_ble_eq_true rfl) (by decide +kernel) ?_
      show rf_V 6 (rf_sh w) K 0 0 46 ([(0, .ref 184), (1, .int a1), (2, .int a2), (3, .int a3), (4, .int a4), (5, .int a5)], [.int y0], rf_MM w m0)
      refine rf_if_eq C 30 76 (by decide +kernel) (fun hc => ?_) (fun hc => ?_)
      · replace hg := (if_pos hc).symm.trans hg
        refine rf_few [0, 1, 2, 3, 5] rfl ?_
        exact s_X2_countSets_76 C hE hr28 a1 a2 a3 a5 m0 hg
      · replace hg := (if_neg hc).symm.trans hg
        refine rf_seg C [(.aload 0, 1), (.invokeinterface 2 5, 3), (.aload 0, 1), (.invokeinterface 2 13, 3), (.iload 2, 1)] (pc' := 58) (S' := ([(0, .ref 184), (1, .int a1), (2, .int a2), (3, .int a3), (4, .int a4), (5, .int a5)], [.int a2, .ref 192, .ref 50], rf_MM w m0)) (by decide +kernel) rfl trivial ?_
        obtain ⟨y1, m1, hc1, hg⟩ := rf_b_some hg
        refine rf_callv C rf_fit0 j_X7_isAllWithin__192 (ci := 7) (As := [.ref 192, .int a2]) (rest := []) mw_X7_isAllWithin__192 (c_X7_isAllWithin__192 hc1) (by decide) rfl (by decide) lk_2_82 rfl rfl (Nat.le_of_ble_eq_true rfl) (by decide +kernel) ?_
        show rf_V 6 (rf_sh w) K 0 0 61 ([(0, .ref 184), (1, .int a1), (2, .int a2), (3, .int a3), (4, .int a4), (5, .int a5)], [.int y1], rf_MM w m1)
        refine rf_if_eq C 15 76 (by decide +kernel) (fun hc => ?_) (fun hc => ?_)
        · replace hg := (if_pos hc).symm.trans hg
          refine rf_few [0, 1, 2, 3, 5] rfl ?_
          exact s_X2_countSets_76 C hE hr28 a1 a2 a3 a5 m1 hg
        · replace hg := (if_neg hc).symm.trans hg
          refine rf_seg C [(.iload 3, 1)] (pc' := 65) (S' := ([(0, .ref 184), (1, .int a1), (2, .int a2), (3, .int a3), (4, .int a4), (5, .int a5)], [.int a3], rf_MM w m1)) (by decide +kernel) rfl trivial ?_
          refine rf_if_ne C 8 73 (by decide +kernel) (fun hc => ?_) (fun hc => ?_)
          · replace hg := (if_neg hc).symm.trans hg
            refine rf_few [0, 1, 2, 3, 5] rfl ?_
            exact s_X2_countSets_73 C hE hr28 a1 a2 a3 a5 m1 hg
          · replace hg := (if_pos hc).symm.trans hg
            refine rf_seg C [(.aload 0, 1), (.iload 1, 1)] (pc' := 70) (S' := ([(0, .ref 184), (1, .int a1), (2, .int a2), (3, .int a3), (4, .int a4), (5, .int a5)], [.int a1, .ref 184], rf_MM w m1)) (by decide +kernel) rfl trivial ?_
            obtain ⟨m2, hc2, hg⟩ := rf_bv_some hg
            refine rf_callv C rf_fit0 j_X2_keepFirst (ci := 2) (As := [.int a1]) (rest := []) mw_X2_keepFirst (c_X2_keepFirst hc2) (by decide) rfl (by decide) lk_2_88 rfl rfl (Nat.le_of_ble_eq_true rfl) (by decide +kernel) ?_
            show rf_V 6 (rf_sh w) K 0 0 73 ([(0, .ref 184), (1, .int a1), (2, .int a2), (3, .int a3), (4, .int a4), (5, .int a5)], [], rf_MM w m2)
            refine rf_few [0, 1, 2, 3, 5] rfl ?_
            exact s_X2_countSets_73 C hE hr28 a1 a2 a3 a5 m2 hg
theorem s_X2_countSets_28 {w : rf_w} {K : rf_K} {r : Int32 × rf_m} (C : rf_Ctx 2 cX2_countSets 6 5 (rf_sh w) K) (hE : rf_End (some .int) K (rf_sh w) 0 0 (some (.int r.1)) (rf_MM w r.2)) (n : Nat) : ∀ (a1 : Int32) (a2 : Int32) (a3 : Int32) (a4 : Int32) (a5 : Int32) (m : rf_m), g_X2_countSets_28 w n a1 a2 a3 a4 a5 m = some r → rf_V 6 (rf_sh w) K 0 0 28 ([(0, .ref 184), (1, .int a1), (2, .int a2), (3, .int a3), (4, .int a4), (5, .int a5)], [], rf_MM w m) := by
  induction n with
  | zero => intro a1 a2 a3 a4 a5 m hg; cases hg
  | succ n ih => intro a1 a2 a3 a4 a5 m hg; exact s_X2_countSets_28_b C hE ih a1 a2 a3 a4 a5 m hg
theorem s_X2_countSets_2_b {w : rf_w} {K : rf_K} {r : Int32 × rf_m} (C : rf_Ctx 2 cX2_countSets 6 5 (rf_sh w) K) (hE : rf_End (some .int) K (rf_sh w) 0 0 (some (.int r.1)) (rf_MM w r.2)) {rec2 : Int32 → Int32 → Int32 → rf_m → Option (Int32 × rf_m)} (hr2 : ∀ (a1 : Int32) (a2 : Int32) (a3 : Int32) (m : rf_m), rec2 a1 a2 a3 m = some r → rf_V 6 (rf_sh w) K 0 0 2 ([(0, .ref 184), (1, .int a1), (2, .int a2), (3, .int a3)], [], rf_MM w m)) (a1 : Int32) (a2 : Int32) (a3 : Int32) (m : rf_m) (hg : g_X2_countSets_2_b w rec2 a1 a2 a3 m = some r) : rf_V 6 (rf_sh w) K 0 0 2 ([(0, .ref 184), (1, .int a1), (2, .int a2), (3, .int a3)], [], rf_MM w m) := by
  unfold g_X2_countSets_2_b at hg
  refine rf_seg C [(.iload 3, 1), (.iload 1, 1)] (pc' := 4) (S' := ([(0, .ref 184), (1, .int a1), (2, .int a2), (3, .int a3)], [.int a1, .int a3], rf_MM w m)) (by decide +kernel) rfl trivial ?_
  refine rf_icmp_ge C 16 20 (by decide +kernel) (fun hc => ?_) (fun hc => ?_)
  · replace hg := (if_pos hc).symm.trans hg
    refine rf_seg C [(.iconst 0, 1), (.istore 3, 1), (.iconst 1, 1), (.istore 4, 2), (.iconst 0, 1), (.istore 5, 2)] (pc' := 28) (S' := ([(5, .int 0), (4, .int 1), (3, .int 0), (0, .ref 184), (1, .int a1), (2, .int a2)], [], rf_MM w m)) (by decide +kernel) rfl trivial ?_
    refine rf_few [3, 4, 5, 2, 1, 0] rfl ?_
    exact s_X2_countSets_28 C hE rf_fuel a1 a2 0 1 0 m hg
  · replace hg := (if_neg hc).symm.trans hg
    obtain ⟨q0, hg⟩ := rf_g_some hg
    refine rf_seg C [(.aload 0, 1), (.invokeinterface 2 9, 3), (.iload 3, 1), (.iload 3, 1), (.iastore, 1), (.iinc 3 1, 3)] (pc' := 17) (S' := ([(3, .int (a3 + 1)), (0, .ref 184), (1, .int a1), (2, .int a2)], [], rf_MM w (rf_i m 188 (Int32.toNatClampNeg a3) a3))) (by decide +kernel) rfl (rf_in_of q0) ?_
    refine rf_goto C (-15) 2 (by decide +kernel) ?_
    refine rf_few [1, 2, 3, 0] rfl ?_
    exact hr2 a1 a2 (a3 + 1) (rf_i m 188 (Int32.toNatClampNeg a3) a3) hg
theorem s_X2_countSets_2 {w : rf_w} {K : rf_K} {r : Int32 × rf_m} (C : rf_Ctx 2 cX2_countSets 6 5 (rf_sh w) K) (hE : rf_End (some .int) K (rf_sh w) 0 0 (some (.int r.1)) (rf_MM w r.2)) (n : Nat) : ∀ (a1 : Int32) (a2 : Int32) (a3 : Int32) (m : rf_m), g_X2_countSets_2 w n a1 a2 a3 m = some r → rf_V 6 (rf_sh w) K 0 0 2 ([(0, .ref 184), (1, .int a1), (2, .int a2), (3, .int a3)], [], rf_MM w m) := by
  induction n with
  | zero => intro a1 a2 a3 m hg; cases hg
  | succ n ih => intro a1 a2 a3 m hg; exact s_X2_countSets_2_b C hE ih a1 a2 a3 m hg
theorem c_X2_countSets {w : rf_w} {m : rf_m} {a1 : Int32} {a2 : Int32} {r : Int32 × rf_m} (hg : g_X2_countSets w m a1 a2 = some r) : rf_Con j_X2_countSets 5 (rf_sh w) [.ref 184, .int a1, .int a2] (rf_MM w m) (some (.int r.1)) (rf_MM w r.2) := by
  refine rf_con j_X2_countSets 5 ⟨by decide +kernel, rfl, Nat.le_of_ble_eq_true rfl⟩ (fun K C hE => ?_)
  unfold g_X2_countSets at hg
  show rf_V 6 (rf_sh w) K 0 0 0 ([(0, .ref 184), (1, .int a1), (2, .int a2)], [], rf_MM w m)
  refine rf_seg C [(.iconst 0, 1), (.istore 3, 1)] (pc' := 2) (S' := ([(3, .int 0), (0, .ref 184), (1, .int a1), (2, .int a2)], [], rf_MM w m)) (by decide +kernel) rfl trivial ?_
  refine rf_few [1, 2, 3, 0] rfl ?_
  exact s_X2_countSets_2 C hE rf_fuel a1 a2 0 m hg
-- X3_isKept
abbrev j_X3_isKept : rf_J := (3, yX3_isKept, cX3_isKept, 2, (some .boolean))
theorem mw_X3_isKept : rf_mv j_X3_isKept (rf_R 3) 1 := ⟨⟨rf_mem 34 (by decide +kernel), rf_mem 34 (by decide +kernel), rf_mem 0 (by decide +kernel), rf_mem 34 (by decide +kernel)⟩, by decide +kernel, by decide⟩
def g_X3_isKept (w : rf_w) (m : rf_m) (a1 : Int32) : Option (Int32 × rf_m) := rf_b (g_X3_factOf w m a1 7) fun y0 m0 => (if y0 = 1 then some (1, m0) else some (0, m0))
theorem c_X3_isKept {w : rf_w} {m : rf_m} {a1 : Int32} {r : Int32 × rf_m} (hg : g_X3_isKept w m a1 = some r) : rf_Con j_X3_isKept 2 (rf_sh w) [.ref 26, .int a1] (rf_MM w m) (some (.int r.1)) (rf_MM w r.2) := by
  refine rf_con j_X3_isKept 2 ⟨by decide +kernel, rfl, Nat.le_of_ble_eq_true rfl⟩ (fun K C hE => ?_)
  unfold g_X3_isKept at hg
  show rf_V 2 (rf_sh w) K 0 0 0 ([(0, .ref 26), (1, .int a1)], [], rf_MM w m)
  refine rf_seg C [(.aload 0, 1), (.iload 1, 1), (.iconst 7, 2)] (pc' := 4) (S' := ([(0, .ref 26), (1, .int a1)], [.int 7, .int a1, .ref 26], rf_MM w m)) (by decide +kernel) rfl trivial ?_
  obtain ⟨y0, m0, hc0, hg⟩ := rf_b_some hg
  refine rf_callv C rf_fit0 j_X3_factOf (ci := 3) (As := [.int a1, .int 7]) (rest := []) mw_X3_factOf (c_X3_factOf hc0) (by decide) rfl (by decide) lk_3_73 rfl rfl (Nat.le_of_ble_eq_true rfl) (by decide +kernel) ?_
  show rf_V 2 (rf_sh w) K 0 0 7 ([(0, .ref 26), (1, .int a1)], [.int y0], rf_MM w m0)
  refine rf_seg C [(.iconst 1, 1)] (pc' := 8) (S' := ([(0, .ref 26), (1, .int a1)], [.int 1, .int y0], rf_MM w m0)) (by decide +kernel) rfl trivial ?_
  refine rf_icmp_ne C 7 15 (by decide +kernel) (fun hc => ?_) (fun hc => ?_)
  · replace hg := (if_neg hc).symm.trans hg
    refine rf_seg C [(.iconst 0, 1)] (pc' := 16) (S' := ([(0, .ref 26), (1, .int a1)], [.int 0], rf_MM w m0)) (by decide +kernel) rfl trivial ?_
    obtain rfl := Option.some.inj hg
    exact rf_zret C hE (by decide) (by decide +kernel)
  · replace hg := (if_pos hc).symm.trans hg
    refine rf_seg C [(.iconst 1, 1)] (pc' := 12) (S' := ([(0, .ref 26), (1, .int a1)], [.int 1], rf_MM w m0)) (by decide +kernel) rfl trivial ?_
    refine rf_goto C 4 16 (by decide +kernel) ?_
    obtain rfl := Option.some.inj hg
    exact rf_zret C hE (by decide) (by decide +kernel)
-- X2_gatherLive
abbrev j_X2_gatherLive : rf_J := (2, yX2_gatherLive, cX2_gatherLive, 3, none)
theorem mw_X2_gatherLive : rf_mv j_X2_gatherLive (rf_R 2) 0 := ⟨⟨rf_mem 85 (by decide +kernel), rf_mem 85 (by decide +kernel), rf_mem 1 (by decide +kernel), rf_mem 85 (by decide +kernel)⟩, by decide +kernel, by decide⟩
def g_X2_gatherLive_99 (w : rf_w) (rec7 : Int32 → rf_m → Option (rf_m)) (a1 : Int32) (m : rf_m) : Option (rf_m) := rec7 (a1 + 1) m
def g_X2_gatherLive_77 (w : rf_w) (rec7 : Int32 → rf_m → Option (rf_m)) (a1 : Int32) (a2 : Int32) (m : rf_m) : Option (rf_m) := rf_g (rf_in a1 12) (rf_g (rf_in a2 12) (g_X2_gatherLive_99 w rec7 a1 (rf_i (rf_i m 187 (Int32.toNatClampNeg a2) (m.1 186 (Int32.toNatClampNeg a1))) 184 8 (((rf_i m 187 (Int32.toNatClampNeg a2) (m.1 186 (Int32.toNatClampNeg a1))).1 184 8) + 1))))
def g_X2_gatherLive_36_b (w : rf_w) (rec7 : Int32 → rf_m → Option (rf_m)) (rec36 : Int32 → Int32 → rf_m → Option (rf_m)) (a1 : Int32) (a2 : Int32) (m : rf_m) : Option (rf_m) := (if a2 ≤ 0 then g_X2_gatherLive_77 w rec7 a1 a2 m else rf_g (rf_in (a2 - 1) 12) (rf_g (rf_in a1 12) ((if (m.1 187 (Int32.toNatClampNeg (a2 - 1))) ≤ (m.1 186 (Int32.toNatClampNeg a1)) then g_X2_gatherLive_77 w rec7 a1 a2 m else rf_g (rf_in (a2 - 1) 12) (rf_g (rf_in a2 12) (rec36 a1 (a2 + (-1)) (rf_i m 187 (Int32.toNatClampNeg a2) (m.1 187 (Int32.toNatClampNeg (a2 - 1))))))))))
def g_X2_gatherLive_36 (w : rf_w) (rec7 : Int32 → rf_m → Option (rf_m)) : Nat → Int32 → Int32 → rf_m → Option (rf_m)
  | 0, _, _, _ => none
  | n + 1, a1, a2, m => g_X2_gatherLive_36_b w rec7 (g_X2_gatherLive_36 w rec7 n) a1 a2 m
def g_X2_gatherLive_7_b (w : rf_w) (rec7 : Int32 → rf_m → Option (rf_m)) (a1 : Int32) (m : rf_m) : Option (rf_m) := (if (m.1 184 1) ≤ a1 then some m else rf_g (rf_in a1 12) (rf_b (g_X3_isKept w m (m.1 186 (Int32.toNatClampNeg a1))) fun y1 m1 => (if y1 = 0 then g_X2_gatherLive_99 w rec7 a1 m1 else g_X2_gatherLive_36 w rec7 rf_fuel a1 (m1.1 184 8) m1)))
def g_X2_gatherLive_7 (w : rf_w) : Nat → Int32 → rf_m → Option (rf_m)
  | 0, _, _ => none
  | n + 1, a1, m => g_X2_gatherLive_7_b w (g_X2_gatherLive_7 w n) a1 m
def g_X2_gatherLive (w : rf_w) (m : rf_m) : Option (rf_m) := g_X2_gatherLive_7 w rf_fuel 0 (rf_i m 184 8 0)
theorem s_X2_gatherLive_99 {w : rf_w} {K : rf_K} {r : rf_m} (C : rf_Ctx 2 cX2_gatherLive 3 3 (rf_sh w) K) (hE : rf_End none K (rf_sh w) 0 0 none (rf_MM w r)) {rec7 : Int32 → rf_m → Option (rf_m)} (hr7 : ∀ (a1 : Int32) (m : rf_m), rec7 a1 m = some r → rf_V 3 (rf_sh w) K 0 0 7 ([(0, .ref 184), (1, .int a1)], [], rf_MM w m)) (a1 : Int32) (m : rf_m) (hg : g_X2_gatherLive_99 w rec7 a1 m = some r) : rf_V 3 (rf_sh w) K 0 0 99 ([(0, .ref 184), (1, .int a1)], [], rf_MM w m) := by
  unfold g_X2_gatherLive_99 at hg
  refine rf_seg C [(.iinc 1 1, 3)] (pc' := 102) (S' := ([(1, .int (a1 + 1)), (0, .ref 184)], [], rf_MM w m)) (by decide +kernel) rfl trivial ?_
  refine rf_goto C (-95) 7 (by decide +kernel) ?_
  refine rf_few [1, 0] rfl ?_
  exact hr7 (a1 + 1) m hg
theorem s_X2_gatherLive_77 {w : rf_w} {K : rf_K} {r : rf_m} (C : rf_Ctx 2 cX2_gatherLive 3 3 (rf_sh w) K) (hE : rf_End none K (rf_sh w) 0 0 none (rf_MM w r)) {rec7 : Int32 → rf_m → Option (rf_m)} (hr7 : ∀ (a1 : Int32) (m : rf_m), rec7 a1 m = some r → rf_V 3 (rf_sh w) K 0 0 7 ([(0, .ref 184), (1, .int a1)], [], rf_MM w m)) (a1 : Int32) (a2 : Int32) (m : rf_m) (hg : g_X2_gatherLive_77 w rec7 a1 a2 m = some r) : rf_V 3 (rf_sh w) K 0 0 77 ([(0, .ref 184), (1, .int a1), (2, .int a2)], [], rf_MM w m) := by
  unfold g_X2_gatherLive_77 at hg
  obtain ⟨q0, hg⟩ := rf_g_some hg
  obtain ⟨q1, hg⟩ := rf_g_some hg
  refine rf_seg C [(.aload 0, 1), (.invokeinterface 2 7, 3), (.iload 2, 1), (.aload 0, 1), (.invokeinterface 2 6, 3), (.iload 1, 1), (.iaload, 1), (.iastore, 1), (.aload 0, 1), (.dup, 1), (.invokeinterface 2 8, 3), (.iconst 1, 1), (.iadd, 1), (.multianewarray 2 8, 3)] (pc' := 99) (S' := ([(0, .ref 184), (1, .int a1), (2, .int a2)], [], rf_MM w (rf_i (rf_i m 187 (Int32.toNatClampNeg a2) (m.1 186 (Int32.toNatClampNeg a1))) 184 8 (((rf_i m 187 (Int32.toNatClampNeg a2) (m.1 186 (Int32.toNatClampNeg a1))).1 184 8) + 1)))) (by decide +kernel) rfl (by exact ⟨(rf_in_of q0), (rf_in_of q1)⟩) ?_
  refine rf_few [0, 1] rfl ?_
  exact s_X2_gatherLive_99 C hE hr7 a1 (rf_i (rf_i m 187 (Int32.toNatClampNeg a2) (m.1 186 (Int32.toNatClampNeg a1))) 184 8 (((rf_i m 187 (Int32.toNatClampNeg a2) (m.1 186 (Int32.toNatClampNeg a1))).1 184 8) + 1)) hg
theorem s_X2_gatherLive_36_b {w : rf_w} {K : rf_K} {r : rf_m} (C : rf_Ctx 2 cX2_gatherLive 3 3 (rf_sh w) K) (hE : rf_End none K (rf_sh w) 0 0 none (rf_MM w r)) {rec7 : Int32 → rf_m → Option (rf_m)} {rec36 : Int32 → Int32 → rf_m → Option (rf_m)} (hr7 : ∀ (a1 : Int32) (m : rf_m), rec7 a1 m = some r → rf_V 3 (rf_sh w) K 0 0 7 ([(0, .ref 184), (1, .int a1)], [], rf_MM w m)) (hr36 : ∀ (a1 : Int32) (a2 : Int32) (m : rf_m), rec36 a1 a2 m = some r → rf_V 3 (rf_sh w) K 0 0 36 ([(0, .ref 184), (1, .int a1), (2, .int a2)], [], rf_MM w m)) (a1 : Int32) (a2 : Int32) (m : rf_m) (hg : g_X2_gatherLive_36_b w rec7 rec36 a1 a2 m = some r) : rf_V 3 (rf_sh w) K 0 0 36 ([(0, .ref 184), (1, .int a1), (2, .int a2)], [], rf_MM w m) := by
  unfold g_X2_gatherLive_36_b at hg
  refine rf_seg C [(.iload 2, 1)] (pc' := 37) (S' := ([(0, .ref 184), (1, .int a1), (2, .int a2)], [.int a2], rf_MM w m)) (by decide +kernel) rfl trivial ?_
  refine rf_if_le C 40 77 (by decide +kernel) (fun hc => ?_) (fun hc => ?_)
  · replace hg := (if_pos hc).symm.trans hg
    refine rf_few [0, 1, 2] rfl ?_
    exact s_X2_gatherLive_77 C hE hr7 a1 a2 m hg
  · replace hg := (if_neg hc).symm.trans hg
    obtain ⟨q0, hg⟩ := rf_g_some hg
    obtain ⟨q1, hg⟩ := rf_g_some hg
    refine rf_seg C [(.aload 0, 1), (.invokeinterface 2 7, 3), (.iload 2, 1), (.iconst 1, 1), (.isub, 1), (.iaload, 1), (.aload 0, 1), (.invokeinterface 2 6, 3), (.iload 1, 1), (.iaload, 1)] (pc' := 54) (S' := ([(0, .ref 184), (1, .int a1), (2, .int a2)], [.int (m.1 186 (Int32.toNatClampNeg a1)), .int (m.1 187 (Int32.toNatClampNeg (a2 - 1)))], rf_MM w m)) (by decide +kernel) rfl (by exact ⟨(rf_in_of q0), (rf_in_of q1)⟩) ?_
    refine rf_icmp_le C 23 77 (by decide +kernel) (fun hc => ?_) (fun hc => ?_)
    · replace hg := (if_pos hc).symm.trans hg
      refine rf_few [0, 1, 2] rfl ?_
      exact s_X2_gatherLive_77 C hE hr7 a1 a2 m hg
    · replace hg := (if_neg hc).symm.trans hg
      obtain ⟨q2, hg⟩ := rf_g_some hg
      obtain ⟨q3, hg⟩ := rf_g_some hg
      refine rf_seg C [(.aload 0, 1), (.invokeinterface 2 7, 3), (.iload 2, 1), (.aload 0, 1), (.invokeinterface 2 7, 3), (.iload 2, 1), (.iconst 1, 1), (.isub, 1), (.iaload, 1), (.iastore, 1), (.iinc 2 (-1), 3)] (pc' := 74) (S' := ([(2, .int (a2 + (-1))), (0, .ref 184), (1, .int a1)], [], rf_MM w (rf_i m 187 (Int32.toNatClampNeg a2) (m.1 187 (Int32.toNatClampNeg (a2 - 1)))))) (by decide +kernel) rfl (by exact ⟨(rf_in_of q2), (rf_in_of q3)⟩) ?_
      refine rf_goto C (-38) 36 (by decide +kernel) ?_
      refine rf_few [1, 2, 0] rfl ?_
      exact hr36 a1 (a2 + (-1)) (rf_i m 187 (Int32.toNatClampNeg a2) (m.1 187 (Int32.toNatClampNeg (a2 - 1)))) hg
theorem s_X2_gatherLive_36 {w : rf_w} {K : rf_K} {r : rf_m} (C : rf_Ctx 2 cX2_gatherLive 3 3 (rf_sh w) K) (hE : rf_End none K (rf_sh w) 0 0 none (rf_MM w r)) {rec7 : Int32 → rf_m → Option (rf_m)} (hr7 : ∀ (a1 : Int32) (m : rf_m), rec7 a1 m = some r → rf_V 3 (rf_sh w) K 0 0 7 ([(0, .ref 184), (1, .int a1)], [], rf_MM w m)) (n : Nat) : ∀ (a1 : Int32) (a2 : Int32) (m : rf_m), g_X2_gatherLive_36 w rec7 n a1 a2 m = some r → rf_V 3 (rf_sh w) K 0 0 36 ([(0, .ref 184), (1, .int a1), (2, .int a2)], [], rf_MM w m) := by
  induction n with
  | zero => intro a1 a2 m hg; cases hg
  | succ n ih => intro a1 a2 m hg; exact s_X2_gatherLive_36_b C hE hr7 ih a1 a2 m hg
theorem s_X2_gatherLive_7_b {w : rf_w} {K : rf_K} {r : rf_m} (C : rf_Ctx 2 cX2_gatherLive 3 3 (rf_sh w) K) (hE : rf_End none K (rf_sh w) 0 0 none (rf_MM w r)) {rec7 : Int32 → rf_m → Option (rf_m)} (hr7 : ∀ (a1 : Int32) (m : rf_m), rec7 a1 m = some r → rf_V 3 (rf_sh w) K 0 0 7 ([(0, .ref 184), (1, .int a1)], [], rf_MM w m)) (a1 : Int32) (m : rf_m) (hg : g_X2_gatherLive_7_b w rec7 a1 m = some r) : rf_V 3 (rf_sh w) K 0 0 7 ([(0, .ref 184), (1, .int a1)], [], rf_MM w m) := by
  unfold g_X2_gatherLive_7_b at hg
  refine rf_seg C [(.iload 1, 1), (.aload 0, 1), (.invokeinterface 2 1, 3)] (pc' := 12) (S' := ([(0, .ref 184), (1, .int a1)], [.int (m.1 184 1), .int a1], rf_MM w m)) (by decide +kernel) rfl trivial ?_
  refine rf_icmp_ge C 93 105 (by decide +kernel) (fun hc => ?_) (fun hc => ?_)
  · replace hg := (if_pos hc).symm.trans hg
    obtain rfl := Option.some.inj hg
    exact rf_vret C hE (by decide +kernel)
  · replace hg := (if_neg hc).symm.trans hg
    obtain ⟨q0, hg⟩ := rf_g_some hg
    refine rf_seg C [(.aload 0, 1), (.invokeinterface 2 4, 3), (.aload 0, 1), (.invokeinterface 2 6, 3), (.iload 1, 1), (.iaload, 1)] (pc' := 25) (S' := ([(0, .ref 184), (1, .int a1)], [.int (m.1 186 (Int32.toNatClampNeg a1)), .ref 26], rf_MM w m)) (by decide +kernel) rfl (rf_in_of q0) ?_
    obtain ⟨y1, m1, hc1, hg⟩ := rf_b_some hg
    refine rf_callv C rf_fit0 j_X3_isKept (ci := 3) (As := [.int (m.1 186 (Int32.toNatClampNeg a1))]) (rest := []) mw_X3_isKept (c_X3_isKept hc1) (by decide) rfl (by decide) lk_2_75 rfl rfl (Nat.le_of_ble_eq_true rfl) (by decide +kernel) ?_
    show rf_V 3 (rf_sh w) K 0 0 28 ([(0, .ref 184), (1, .int a1)], [.int y1], rf_MM w m1)
    refine rf_if_eq C 71 99 (by decide +kernel) (fun hc => ?_) (fun hc => ?_)
    · replace hg := (if_pos hc).symm.trans hg
      refine rf_few [0, 1] rfl ?_
      exact s_X2_gatherLive_99 C hE hr7 a1 m1 hg
    · replace hg := (if_neg hc).symm.trans hg
      refine rf_seg C [(.aload 0, 1), (.invokeinterface 2 8, 3), (.istore 2, 1)] (pc' := 36) (S' := ([(2, .int (m1.1 184 8)), (0, .ref 184), (1, .int a1)], [], rf_MM w m1)) (by decide +kernel) rfl trivial ?_
      refine rf_few [1, 2, 0] rfl ?_
      exact s_X2_gatherLive_36 C hE hr7 rf_fuel a1 (m1.1 184 8) m1 hg
theorem s_X2_gatherLive_7 {w : rf_w} {K : rf_K} {r : rf_m} (C : rf_Ctx 2 cX2_gatherLive 3 3 (rf_sh w) K) (hE : rf_End none K (rf_sh w) 0 0 none (rf_MM w r)) (n : Nat) : ∀ (a1 : Int32) (m : rf_m), g_X2_gatherLive_7 w n a1 m = some r → rf_V 3 (rf_sh w) K 0 0 7 ([(0, .ref 184), (1, .int a1)], [], rf_MM w m) := by
  induction n with
  | zero => intro a1 m hg; cases hg
  | succ n ih => intro a1 m hg; exact s_X2_gatherLive_7_b C hE ih a1 m hg
theorem c_X2_gatherLive {w : rf_w} {m : rf_m} {r : rf_m} (hg : g_X2_gatherLive w m = some r) : rf_Con j_X2_gatherLive 3 (rf_sh w) [.ref 184] (rf_MM w m) none (rf_MM w r) := by
  refine rf_con j_X2_gatherLive 3 ⟨by decide +kernel, rfl, Nat.le_of_ble_eq_true rfl⟩ (fun K C hE => ?_)
  unfold g_X2_gatherLive at hg
  show rf_V 3 (rf_sh w) K 0 0 0 ([(0, .ref 184)], [], rf_MM w m)
  refine rf_seg C [(.aload 0, 1), (.iconst 0, 1), (.multianewarray 2 8, 3), (.iconst 0, 1), (.istore 1, 1)] (pc' := 7) (S' := ([(1, .int 0), (0, .ref 184)], [], rf_MM w (rf_i m 184 8 0))) (by decide +kernel) rfl trivial ?_
  refine rf_few [1, 0] rfl ?_
  exact s_X2_gatherLive_7 C hE rf_fuel 0 (rf_i m 184 8 0) hg
-- X2_fewest
abbrev j_X2_fewest : rf_J := (2, yX2_fewest, cX2_fewest, 4, (some .int))
theorem mw_X2_fewest : rf_mv j_X2_fewest (rf_R 2) 1 := ⟨⟨rf_mem 85 (by decide +kernel), rf_mem 85 (by decide +kernel), rf_mem 1 (by decide +kernel), rf_mem 85 (by decide +kernel)⟩, by decide +kernel, by decide⟩
def g_X2_fewest_24_b (w : rf_w) (rec24 : Int32 → Int32 → rf_m → Option (Int32 × rf_m)) (a1 : Int32) (a2 : Int32) (m : rf_m) : Option (Int32 × rf_m) := (if (m.1 184 8) < a2 then some ((-2), m) else rf_b (g_X2_countSets w m a2 a1) fun y0 m0 => (if y0 ≤ 0 then rec24 a1 (a2 + 1) m0 else rf_g (rf_cg 0 0 12 12 12) (some (a2, rf_i (rf_i (rf_ci m0 189 185 0 0 12) 184 2 a2) 184 3 y0))))
def g_X2_fewest_24 (w : rf_w) : Nat → Int32 → Int32 → rf_m → Option (Int32 × rf_m)
  | 0, _, _, _ => none
  | n + 1, a1, a2, m => g_X2_fewest_24_b w (g_X2_fewest_24 w n) a1 a2 m
def g_X2_fewest (w : rf_w) (m : rf_m) (a1 : Int32) : Option (Int32 × rf_m) := rf_bv (g_X2_gatherLive w m) fun m0 => rf_g (rf_cg 0 0 80 80 80) (g_X2_fewest_24 w rf_fuel a1 0 (rf_ci m0 31 192 0 0 80))
theorem s_X2_fewest_24_b {w : rf_w} {K : rf_K} {r : Int32 × rf_m} (C : rf_Ctx 2 cX2_fewest 4 6 (rf_sh w) K) (hE : rf_End (some .int) K (rf_sh w) 0 0 (some (.int r.1)) (rf_MM w r.2)) {rec24 : Int32 → Int32 → rf_m → Option (Int32 × rf_m)} (hr24 : ∀ (a1 : Int32) (a2 : Int32) (m : rf_m), rec24 a1 a2 m = some r → rf_V 4 (rf_sh w) K 0 0 24 ([(0, .ref 184), (1, .int a1), (2, .int a2)], [], rf_MM w m)) (a1 : Int32) (a2 : Int32) (m : rf_m) (hg : g_X2_fewest_24_b w rec24 a1 a2 m = some r) : rf_V 4 (rf_sh w) K 0 0 24 ([(0, .ref 184), (1, .int a1), (2, .int a2)], [], rf_MM w m) := by
  unfold g_X2_fewest_24_b at hg
  refine rf_seg C [(.iload 2, 1), (.aload 0, 1), (.invokeinterface 2 8, 3)] (pc' := 29) (S' := ([(0, .ref 184), (1, .int a1), (2, .int a2)], [.int (m.1 184 8), .int a2], rf_MM w m)) (by decide +kernel) rfl trivial ?_
  refine rf_icmp_gt C 47 76 (by decide +kernel) (fun hc => ?_) (fun hc => ?_)
  · replace hg := (if_pos hc).symm.trans hg
    refine rf_seg C [(.iconst (-2), 2)] (pc' := 78) (S' := ([(0, .ref 184), (1, .int a1), (2, .int a2)], [.int ((-2))], rf_MM w m)) (by decide +kernel) rfl trivial ?_
    obtain rfl := Option.some.inj hg
    exact rf_iret C hE (by decide +kernel)
  · replace hg := (if_neg hc).symm.trans hg
    refine rf_seg C [(.aload 0, 1), (.iload 2, 1), (.iload 1, 1)] (pc' := 35) (S' := ([(0, .ref 184), (1, .int a1), (2, .int a2)], [.int a1, .int a2, .ref 184], rf_MM w m)) (by decide +kernel) rfl trivial ?_
    obtain ⟨y0, m0, hc0, hg⟩ := rf_b_some hg
    refine rf_callv C rf_fit0 j_X2_countSets (ci := 2) (As := [.int a2, .int a1]) (rest := []) mw_X2_countSets (c_X2_countSets hc0) (by decide) rfl (by decide) lk_2_65 rfl rfl (Nat.le_of_ble_eq_true rfl) (by decide +kernel) ?_
    show rf_V 4 (rf_sh w) K 0 0 38 ([(0, .ref 184), (1, .int a1), (2, .int a2)], [.int y0], rf_MM w m0)
    refine rf_seg C [(.istore 3, 1), (.iload 3, 1)] (pc' := 40) (S' := ([(3, .int y0), (0, .ref 184), (1, .int a1), (2, .int a2)], [.int y0], rf_MM w m0)) (by decide +kernel) rfl trivial ?_
    refine rf_if_le C 30 70 (by decide +kernel) (fun hc => ?_) (fun hc => ?_)
    · replace hg := (if_pos hc).symm.trans hg
      refine rf_seg C [(.iinc 2 1, 3)] (pc' := 73) (S' := ([(2, .int (a2 + 1)), (3, .int y0), (0, .ref 184), (1, .int a1)], [], rf_MM w m0)) (by decide +kernel) rfl trivial ?_
      refine rf_goto C (-49) 24 (by decide +kernel) ?_
      refine rf_few [2, 3, 0] rfl ?_
      exact hr24 a1 (a2 + 1) m0 hg
    · replace hg := (if_neg hc).symm.trans hg
      refine rf_seg C [(.aload 0, 1), (.invokeinterface 2 10, 3), (.iconst 0, 1), (.aload 0, 1), (.invokeinterface 2 0, 3), (.iconst 0, 1), (.iconst 12, 2)] (pc' := 55) (S' := ([(3, .int y0), (0, .ref 184), (1, .int a1), (2, .int a2)], [.int 12, .int 0, .ref 185, .int 0, .ref 189], rf_MM w m0)) (by decide +kernel) rfl trivial ?_
      obtain ⟨q1, hg⟩ := rf_g_some hg
      refine rf_copyi C (by decide) (n0 := 12) (n1 := 12) lk_2_56 rfl rfl q1 (Nat.le_of_ble_eq_true rfl) (by decide +kernel) ?_
      show rf_V 4 (rf_sh w) K 0 0 58 ([(3, .int y0), (0, .ref 184), (1, .int a1), (2, .int a2)], [], rf_MM w (rf_ci m0 189 185 0 0 12))
      refine rf_seg C [(.aload 0, 1), (.iload 2, 1), (.multianewarray 2 2, 3), (.aload 0, 1), (.iload 3, 1), (.multianewarray 2 3, 3), (.iload 2, 1)] (pc' := 69) (S' := ([(3, .int y0), (0, .ref 184), (1, .int a1), (2, .int a2)], [.int a2], rf_MM w (rf_i (rf_i (rf_ci m0 189 185 0 0 12) 184 2 a2) 184 3 y0))) (by decide +kernel) rfl trivial ?_
      obtain rfl := Option.some.inj hg
      exact rf_iret C hE (by decide +kernel)
theorem s_X2_fewest_24 {w : rf_w} {K : rf_K} {r : Int32 × rf_m} (C : rf_Ctx 2 cX2_fewest 4 6 (rf_sh w) K) (hE : rf_End (some .int) K (rf_sh w) 0 0 (some (.int r.1)) (rf_MM w r.2)) (n : Nat) : ∀ (a1 : Int32) (a2 : Int32) (m : rf_m), g_X2_fewest_24 w n a1 a2 m = some r → rf_V 4 (rf_sh w) K 0 0 24 ([(0, .ref 184), (1, .int a1), (2, .int a2)], [], rf_MM w m) := by
  induction n with
  | zero => intro a1 a2 m hg; cases hg
  | succ n ih => intro a1 a2 m hg; exact s_X2_fewest_24_b C hE ih a1 a2 m hg
theorem c_X2_fewest {w : rf_w} {m : rf_m} {a1 : Int32} {r : Int32 × rf_m} (hg : g_X2_fewest w m a1 = some r) : rf_Con j_X2_fewest 6 (rf_sh w) [.ref 184, .int a1] (rf_MM w m) (some (.int r.1)) (rf_MM w r.2) := by
  refine rf_con j_X2_fewest 6 ⟨by decide +kernel, rfl, Nat.le_of_ble_eq_true rfl⟩ (fun K C hE => ?_)
  unfold g_X2_fewest at hg
  show rf_V 4 (rf_sh w) K 0 0 0 ([(0, .ref 184), (1, .int a1)], [], rf_MM w m)
  refine rf_seg C [(.aload 0, 1)] (pc' := 1) (S' := ([(0, .ref 184), (1, .int a1)], [.ref 184], rf_MM w m)) (by decide +kernel) rfl trivial ?_
  obtain ⟨m0, hc0, hg⟩ := rf_bv_some hg
  refine rf_callv C rf_fit0 j_X2_gatherLive (ci := 2) (As := []) (rest := []) mw_X2_gatherLive (c_X2_gatherLive hc0) (by decide) rfl (by decide) lk_2_48 rfl rfl (Nat.le_of_ble_eq_true rfl) (by decide +kernel) ?_
  show rf_V 4 (rf_sh w) K 0 0 4 ([(0, .ref 184), (1, .int a1)], [], rf_MM w m0)
  refine rf_seg C [(.aload 0, 1), (.invokeinterface 2 4, 3), (.invokeinterface 3 4, 3), (.iconst 0, 1), (.aload 0, 1), (.invokeinterface 2 13, 3), (.iconst 0, 1), (.iconst 80, 2)] (pc' := 19) (S' := ([(0, .ref 184), (1, .int a1)], [.int 80, .int 0, .ref 192, .int 0, .ref 31], rf_MM w m0)) (by decide +kernel) rfl trivial ?_
  obtain ⟨q1, hg⟩ := rf_g_some hg
  refine rf_copyi C (by decide) (n0 := 80) (n1 := 80) lk_2_56 rfl rfl q1 (Nat.le_of_ble_eq_true rfl) (by decide +kernel) ?_
  show rf_V 4 (rf_sh w) K 0 0 22 ([(0, .ref 184), (1, .int a1)], [], rf_MM w (rf_ci m0 31 192 0 0 80))
  refine rf_seg C [(.iconst 0, 1), (.istore 2, 1)] (pc' := 24) (S' := ([(2, .int 0), (0, .ref 184), (1, .int a1)], [], rf_MM w (rf_ci m0 31 192 0 0 80))) (by decide +kernel) rfl trivial ?_
  refine rf_few [1, 2, 0] rfl ?_
  exact s_X2_fewest_24 C hE rf_fuel a1 0 (rf_ci m0 31 192 0 0 80) hg
-- X3_isParty
abbrev j_X3_isParty : rf_J := (3, yX3_isParty, cX3_isParty, 2, (some .boolean))
theorem mw_X3_isParty : rf_mv j_X3_isParty (rf_R 3) 1 := ⟨⟨rf_mem 23 (by decide +kernel), rf_mem 23 (by decide +kernel), rf_mem 0 (by decide +kernel), rf_mem 23 (by decide +kernel)⟩, by decide +kernel, by decide⟩
def g_X3_isParty (w : rf_w) (m : rf_m) (a1 : Int32) : Option (Int32 × rf_m) := (if a1 < 0 then some (0, m) else (if (m.1 26 5) ≤ a1 then some (0, m) else some (1, m)))
theorem c_X3_isParty {w : rf_w} {m : rf_m} {a1 : Int32} {r : Int32 × rf_m} (hg : g_X3_isParty w m a1 = some r) : rf_Con j_X3_isParty 1 (rf_sh w) [.ref 26, .int a1] (rf_MM w m) (some (.int r.1)) (rf_MM w r.2) := by
  refine rf_con j_X3_isParty 1 ⟨by decide +kernel, rfl, Nat.le_of_ble_eq_true rfl⟩ (fun K C hE => ?_)
  unfold g_X3_isParty at hg
  show rf_V 2 (rf_sh w) K 0 0 0 ([(0, .ref 26), (1, .int a1)], [], rf_MM w m)
  refine rf_seg C [(.iload 1, 1)] (pc' := 1) (S' := ([(0, .ref 26), (1, .int a1)], [.int a1], rf_MM w m)) (by decide +kernel) rfl trivial ?_
  refine rf_if_lt C 15 16 (by decide +kernel) (fun hc => ?_) (fun hc => ?_)
  · replace hg := (if_pos hc).symm.trans hg
    refine rf_seg C [(.iconst 0, 1)] (pc' := 17) (S' := ([(0, .ref 26), (1, .int a1)], [.int 0], rf_MM w m)) (by decide +kernel) rfl trivial ?_
    obtain rfl := Option.some.inj hg
    exact rf_zret C hE (by decide) (by decide +kernel)
  · replace hg := (if_neg hc).symm.trans hg
    refine rf_seg C [(.iload 1, 1), (.aload 0, 1), (.invokeinterface 3 5, 3)] (pc' := 9) (S' := ([(0, .ref 26), (1, .int a1)], [.int (m.1 26 5), .int a1], rf_MM w m)) (by decide +kernel) rfl trivial ?_
    refine rf_icmp_ge C 7 16 (by decide +kernel) (fun hc => ?_) (fun hc => ?_)
    · replace hg := (if_pos hc).symm.trans hg
      refine rf_seg C [(.iconst 0, 1)] (pc' := 17) (S' := ([(0, .ref 26), (1, .int a1)], [.int 0], rf_MM w m)) (by decide +kernel) rfl trivial ?_
      obtain rfl := Option.some.inj hg
      exact rf_zret C hE (by decide) (by decide +kernel)
    · replace hg := (if_neg hc).symm.trans hg
      refine rf_seg C [(.iconst 1, 1)] (pc' := 13) (S' := ([(0, .ref 26), (1, .int a1)], [.int 1], rf_MM w m)) (by decide +kernel) rfl trivial ?_
      refine rf_goto C 4 17 (by decide +kernel) ?_
      obtain rfl := Option.some.inj hg
      exact rf_zret C hE (by decide) (by decide +kernel)
-- X3_isAngle
abbrev j_X3_isAngle : rf_J := (3, yX3_isAngle, cX3_isAngle, 2, (some .boolean))
theorem mw_X3_isAngle : rf_mv j_X3_isAngle (rf_R 3) 1 := ⟨⟨rf_mem 23 (by decide +kernel), rf_mem 23 (by decide +kernel), rf_mem 0 (by decide +kernel), rf_mem 23 (by decide +kernel)⟩, by decide +kernel, by decide⟩
def g_X3_isAngle (w : rf_w) (m : rf_m) (a1 : Int32) : Option (Int32 × rf_m) := (if a1 < 0 then some (0, m) else (if (m.1 26 6) ≤ a1 then some (0, m) else some (1, m)))
theorem c_X3_isAngle {w : rf_w} {m : rf_m} {a1 : Int32} {r : Int32 × rf_m} (hg : g_X3_isAngle w m a1 = some r) : rf_Con j_X3_isAngle 1 (rf_sh w) [.ref 26, .int a1] (rf_MM w m) (some (.int r.1)) (rf_MM w r.2) := by
  refine rf_con j_X3_isAngle 1 ⟨by decide +kernel, rfl, Nat.le_of_ble_eq_true rfl⟩ (fun K C hE => ?_)
  unfold g_X3_isAngle at hg
  show rf_V 2 (rf_sh w) K 0 0 0 ([(0, .ref 26), (1, .int a1)], [], rf_MM w m)
  refine rf_seg C [(.iload 1, 1)] (pc' := 1) (S' := ([(0, .ref 26), (1, .int a1)], [.int a1], rf_MM w m)) (by decide +kernel) rfl trivial ?_
  refine rf_if_lt C 15 16 (by decide +kernel) (fun hc => ?_) (fun hc => ?_)
  · replace hg := (if_pos hc).symm.trans hg
    refine rf_seg C [(.iconst 0, 1)] (pc' := 17) (S' := ([(0, .ref 26), (1, .int a1)], [.int 0], rf_MM w m)) (by decide +kernel) rfl trivial ?_
    obtain rfl := Option.some.inj hg
    exact rf_zret C hE (by decide) (by decide +kernel)
  · replace hg := (if_neg hc).symm.trans hg
    refine rf_seg C [(.iload 1, 1), (.aload 0, 1), (.invokeinterface 3 6, 3)] (pc' := 9) (S' := ([(0, .ref 26), (1, .int a1)], [.int (m.1 26 6), .int a1], rf_MM w m)) (by decide +kernel) rfl trivial ?_
    refine rf_icmp_ge C 7 16 (by decide +kernel) (fun hc => ?_) (fun hc => ?_)
    · replace hg := (if_pos hc).symm.trans hg
      refine rf_seg C [(.iconst 0, 1)] (pc' := 17) (S' := ([(0, .ref 26), (1, .int a1)], [.int 0], rf_MM w m)) (by decide +kernel) rfl trivial ?_
      obtain rfl := Option.some.inj hg
      exact rf_zret C hE (by decide) (by decide +kernel)
    · replace hg := (if_neg hc).symm.trans hg
      refine rf_seg C [(.iconst 1, 1)] (pc' := 13) (S' := ([(0, .ref 26), (1, .int a1)], [.int 1], rf_MM w m)) (by decide +kernel) rfl trivial ?_
      refine rf_goto C 4 17 (by decide +kernel) ?_
      obtain rfl := Option.some.inj hg
      exact rf_zret C hE (by decide) (by decide +kernel)
-- X3_isReading
abbrev j_X3_isReading : rf_J := (3, yX3_isReading, cX3_isReading, 2, (some .boolean))
theorem mw_X3_isReading : rf_mv j_X3_isReading (rf_R 3) 1 := ⟨⟨rf_mem 25 (by decide +kernel), rf_mem 25 (by decide +kernel), rf_mem 0 (by decide +kernel), rf_mem 25 (by decide +kernel)⟩, by decide +kernel, by decide⟩
def g_X3_isReading (w : rf_w) (m : rf_m) (a1 : Int32) : Option (Int32 × rf_m) := (if a1 < 0 then some (0, m) else (if (m.1 26 7) ≤ a1 then some (0, m) else some (1, m)))
theorem c_X3_isReading {w : rf_w} {m : rf_m} {a1 : Int32} {r : Int32 × rf_m} (hg : g_X3_isReading w m a1 = some r) : rf_Con j_X3_isReading 1 (rf_sh w) [.ref 26, .int a1] (rf_MM w m) (some (.int r.1)) (rf_MM w r.2) := by
  refine rf_con j_X3_isReading 1 ⟨by decide +kernel, rfl, Nat.le_of_ble_eq_true rfl⟩ (fun K C hE => ?_)
  unfold g_X3_isReading at hg
  show rf_V 2 (rf_sh w) K 0 0 0 ([(0, .ref 26), (1, .int a1)], [], rf_MM w m)
  refine rf_seg C [(.iload 1, 1)] (pc' := 1) (S' := ([(0, .ref 26), (1, .int a1)], [.int a1], rf_MM w m)) (by decide +kernel) rfl trivial ?_
  refine rf_if_lt C 15 16 (by decide +kernel) (fun hc => ?_) (fun hc => ?_)
  · replace hg := (if_pos hc).symm.trans hg
    refine rf_seg C [(.iconst 0, 1)] (pc' := 17) (S' := ([(0, .ref 26), (1, .int a1)], [.int 0], rf_MM w m)) (by decide +kernel) rfl trivial ?_
    obtain rfl := Option.some.inj hg
    exact rf_zret C hE (by decide) (by decide +kernel)
  · replace hg := (if_neg hc).symm.trans hg
    refine rf_seg C [(.iload 1, 1), (.aload 0, 1), (.invokeinterface 3 7, 3)] (pc' := 9) (S' := ([(0, .ref 26), (1, .int a1)], [.int (m.1 26 7), .int a1], rf_MM w m)) (by decide +kernel) rfl trivial ?_
    refine rf_icmp_ge C 7 16 (by decide +kernel) (fun hc => ?_) (fun hc => ?_)
    · replace hg := (if_pos hc).symm.trans hg
      refine rf_seg C [(.iconst 0, 1)] (pc' := 17) (S' := ([(0, .ref 26), (1, .int a1)], [.int 0], rf_MM w m)) (by decide +kernel) rfl trivial ?_
      obtain rfl := Option.some.inj hg
      exact rf_zret C hE (by decide) (by decide +kernel)
    · replace hg := (if_neg hc).symm.trans hg
      refine rf_seg C [(.iconst 1, 1)] (pc' := 13) (S' := ([(0, .ref 26), (1, .int a1)], [.int 1], rf_MM w m)) (by decide +kernel) rfl trivial ?_
      refine rf_goto C 4 17 (by decide +kernel) ?_
      obtain rfl := Option.some.inj hg
      exact rf_zret C hE (by decide) (by decide +kernel)
-- X3_addParty
abbrev j_X3_addParty : rf_J := (3, yX3_addParty, cX3_addParty, 2, (some .int))
theorem mw_X3_addParty : rf_mv j_X3_addParty (rf_R 3) 1 := ⟨⟨rf_mem 21 (by decide +kernel), rf_mem 21 (by decide +kernel), rf_mem 0 (by decide +kernel), rf_mem 21 (by decide +kernel)⟩, by decide +kernel, by decide⟩
def g_X3_addParty (w : rf_w) (m : rf_m) (a1 : Int32) : Option (Int32 × rf_m) := rf_g (rf_in (m.1 26 5) 8) (some (((rf_i (rf_i m 27 (Int32.toNatClampNeg (m.1 26 5)) (vp_nar .boolean a1)) 26 5 (((rf_i m 27 (Int32.toNatClampNeg (m.1 26 5)) (vp_nar .boolean a1)).1 26 5) + 1)).1 26 5) - 1, rf_i (rf_i m 27 (Int32.toNatClampNeg (m.1 26 5)) (vp_nar .boolean a1)) 26 5 (((rf_i m 27 (Int32.toNatClampNeg (m.1 26 5)) (vp_nar .boolean a1)).1 26 5) + 1)))
theorem c_X3_addParty {w : rf_w} {m : rf_m} {a1 : Int32} {r : Int32 × rf_m} (hg : g_X3_addParty w m a1 = some r) : rf_Con j_X3_addParty 1 (rf_sh w) [.ref 26, .int a1] (rf_MM w m) (some (.int r.1)) (rf_MM w r.2) := by
  refine rf_con j_X3_addParty 1 ⟨by decide +kernel, rfl, Nat.le_of_ble_eq_true rfl⟩ (fun K C hE => ?_)
  unfold g_X3_addParty at hg
  show rf_V 2 (rf_sh w) K 0 0 0 ([(0, .ref 26), (1, .int a1)], [], rf_MM w m)
  obtain ⟨q0, hg⟩ := rf_g_some hg
  refine rf_seg C [(.aload 0, 1), (.invokeinterface 3 0, 3), (.aload 0, 1), (.invokeinterface 3 5, 3), (.iload 1, 1), (.bastore, 1), (.aload 0, 1), (.dup, 1), (.invokeinterface 3 5, 3), (.iconst 1, 1), (.iadd, 1), (.multianewarray 3 5, 3), (.aload 0, 1), (.invokeinterface 3 5, 3), (.iconst 1, 1), (.isub, 1)] (pc' := 26) (S' := ([(0, .ref 26), (1, .int a1)], [.int (((rf_i (rf_i m 27 (Int32.toNatClampNeg (m.1 26 5)) (vp_nar .boolean a1)) 26 5 (((rf_i m 27 (Int32.toNatClampNeg (m.1 26 5)) (vp_nar .boolean a1)).1 26 5) + 1)).1 26 5) - 1)], rf_MM w (rf_i (rf_i m 27 (Int32.toNatClampNeg (m.1 26 5)) (vp_nar .boolean a1)) 26 5 (((rf_i m 27 (Int32.toNatClampNeg (m.1 26 5)) (vp_nar .boolean a1)).1 26 5) + 1)))) (by decide +kernel) rfl (rf_in_of q0) ?_
  obtain rfl := Option.some.inj hg
  exact rf_iret C hE (by decide +kernel)
-- X3_forget
abbrev j_X3_forget : rf_J := (3, yX3_forget, cX3_forget, 2, none)
theorem mw_X3_forget : rf_mv j_X3_forget (rf_R 3) 1 := ⟨⟨rf_mem 22 (by decide +kernel), rf_mem 22 (by decide +kernel), rf_mem 0 (by decide +kernel), rf_mem 22 (by decide +kernel)⟩, by decide +kernel, by decide⟩
def g_X3_forget (w : rf_w) (m : rf_m) (a1 : Int32) : Option (rf_m) := rf_g (rf_in a1 80) (some (rf_i (rf_i m 40 (Int32.toNatClampNeg a1) (vp_nar .boolean 1)) 26 19 1))
theorem c_X3_forget {w : rf_w} {m : rf_m} {a1 : Int32} {r : rf_m} (hg : g_X3_forget w m a1 = some r) : rf_Con j_X3_forget 1 (rf_sh w) [.ref 26, .int a1] (rf_MM w m) none (rf_MM w r) := by
  refine rf_con j_X3_forget 1 ⟨by decide +kernel, rfl, Nat.le_of_ble_eq_true rfl⟩ (fun K C hE => ?_)
  unfold g_X3_forget at hg
  show rf_V 2 (rf_sh w) K 0 0 0 ([(0, .ref 26), (1, .int a1)], [], rf_MM w m)
  obtain ⟨q0, hg⟩ := rf_g_some hg
  refine rf_seg C [(.aload 0, 1), (.invokeinterface 3 18, 3), (.iload 1, 1), (.iconst 1, 1), (.bastore, 1), (.aload 0, 1), (.iconst 1, 1), (.multianewarray 3 19, 3)] (pc' := 12) (S' := ([(0, .ref 26), (1, .int a1)], [], rf_MM w (rf_i (rf_i m 40 (Int32.toNatClampNeg a1) (vp_nar .boolean 1)) 26 19 1))) (by decide +kernel) rfl (by exact ⟨(rf_in_of q0), (rf_01_of (by decide))⟩) ?_
  obtain rfl := Option.some.inj hg
  exact rf_vret C hE (by decide +kernel)
-- X3_addAngle
abbrev j_X3_addAngle : rf_J := (3, yX3_addAngle, cX3_addAngle, 4, (some .int))
theorem mw_X3_addAngle : rf_mv j_X3_addAngle (rf_R 3) 3 := ⟨⟨rf_mem 22 (by decide +kernel), rf_mem 22 (by decide +kernel), rf_mem 0 (by decide +kernel), rf_mem 22 (by decide +kernel)⟩, by decide +kernel, by decide⟩
def g_X3_addAngle (w : rf_w) (m : rf_m) (a1 : Int32) (a2 : Int32) (a3 : Int32) : Option (Int32 × rf_m) := rf_g (rf_in (m.1 26 6) 80) (rf_g (rf_in ((rf_i m 28 (Int32.toNatClampNeg (m.1 26 6)) a1).1 26 6) 80) (rf_g (rf_in ((rf_i (rf_i m 28 (Int32.toNatClampNeg (m.1 26 6)) a1) 29 (Int32.toNatClampNeg ((rf_i m 28 (Int32.toNatClampNeg (m.1 26 6)) a1).1 26 6)) a2).1 26 6) 80) (rf_bv (g_X3_forget w (rf_i (rf_i (rf_i m 28 (Int32.toNatClampNeg (m.1 26 6)) a1) 29 (Int32.toNatClampNeg ((rf_i m 28 (Int32.toNatClampNeg (m.1 26 6)) a1).1 26 6)) a2) 30 (Int32.toNatClampNeg ((rf_i (rf_i m 28 (Int32.toNatClampNeg (m.1 26 6)) a1) 29 (Int32.toNatClampNeg ((rf_i m 28 (Int32.toNatClampNeg (m.1 26 6)) a1).1 26 6)) a2).1 26 6)) a3) ((rf_i (rf_i (rf_i m 28 (Int32.toNatClampNeg (m.1 26 6)) a1) 29 (Int32.toNatClampNeg ((rf_i m 28 (Int32.toNatClampNeg (m.1 26 6)) a1).1 26 6)) a2) 30 (Int32.toNatClampNeg ((rf_i (rf_i m 28 (Int32.toNatClampNeg (m.1 26 6)) a1) 29 (Int32.toNatClampNeg ((rf_i m 28 (Int32.toNatClampNeg (m.1 26 6)) a1).1 26 6)) a2).1 26 6)) a3).1 26 6)) fun m3 => some (((rf_i m3 26 6 ((m3.1 26 6) + 1)).1 26 6) - 1, rf_i m3 26 6 ((m3.1 26 6) + 1)))))
theorem c_X3_addAngle {w : rf_w} {m : rf_m} {a1 : Int32} {a2 : Int32} {a3 : Int32} {r : Int32 × rf_m} (hg : g_X3_addAngle w m a1 a2 a3 = some r) : rf_Con j_X3_addAngle 2 (rf_sh w) [.ref 26, .int a1, .int a2, .int a3] (rf_MM w m) (some (.int r.1)) (rf_MM w r.2) := by
  refine rf_con j_X3_addAngle 2 ⟨by decide +kernel, rfl, Nat.le_of_ble_eq_true rfl⟩ (fun K C hE => ?_)
  unfold g_X3_addAngle at hg
  show rf_V 4 (rf_sh w) K 0 0 0 ([(0, .ref 26), (1, .int a1), (2, .int a2), (3, .int a3)], [], rf_MM w m)
  obtain ⟨q0, hg⟩ := rf_g_some hg
  obtain ⟨q1, hg⟩ := rf_g_some hg
  obtain ⟨q2, hg⟩ := rf_g_some hg
  refine rf_seg C [(.aload 0, 1), (.invokeinterface 3 1, 3), (.aload 0, 1), (.invokeinterface 3 6, 3), (.iload 1, 1), (.iastore, 1), (.aload 0, 1), (.invokeinterface 3 2, 3), (.aload 0, 1), (.invokeinterface 3 6, 3), (.iload 2, 1), (.iastore, 1), (.aload 0, 1), (.invokeinterface 3 3, 3), (.aload 0, 1), (.invokeinterface 3 6, 3), (.iload 3, 1), (.iastore, 1), (.aload 0, 1), (.aload 0, 1), (.invokeinterface 3 6, 3)] (pc' := 35) (S' := ([(0, .ref 26), (1, .int a1), (2, .int a2), (3, .int a3)], [.int ((rf_i (rf_i (rf_i m 28 (Int32.toNatClampNeg (m.1 26 6)) a1) 29 (Int32.toNatClampNeg ((rf_i m 28 (Int32.toNatClampNeg (m.1 26 6)) a1).1 26 6)) a2) 30 (Int32.toNatClampNeg ((rf_i (rf_i m 28 (Int32.toNatClampNeg (m.1 26 6)) a1) 29 (Int32.toNatClampNeg ((rf_i m 28 (Int32.toNatClampNeg (m.1 26 6)) a1).1 26 6)) a2).1 26 6)) a3).1 26 6), .ref 26], rf_MM w (rf_i (rf_i (rf_i m 28 (Int32.toNatClampNeg (m.1 26 6)) a1) 29 (Int32.toNatClampNeg ((rf_i m 28 (Int32.toNatClampNeg (m.1 26 6)) a1).1 26 6)) a2) 30 (Int32.toNatClampNeg ((rf_i (rf_i m 28 (Int32.toNatClampNeg (m.1 26 6)) a1) 29 (Int32.toNatClampNeg ((rf_i m 28 (Int32.toNatClampNeg (m.1 26 6)) a1).1 26 6)) a2).1 26 6)) a3))) (by decide +kernel) rfl (by exact ⟨(rf_in_of q0), (rf_in_of q1), (rf_in_of q2)⟩) ?_
  obtain ⟨m3, hc3, hg⟩ := rf_bv_some hg
  refine rf_callv C rf_fit0 j_X3_forget (ci := 3) (As := [.int ((rf_i (rf_i (rf_i m 28 (Int32.toNatClampNeg (m.1 26 6)) a1) 29 (Int32.toNatClampNeg ((rf_i m 28 (Int32.toNatClampNeg (m.1 26 6)) a1).1 26 6)) a2) 30 (Int32.toNatClampNeg ((rf_i (rf_i m 28 (Int32.toNatClampNeg (m.1 26 6)) a1) 29 (Int32.toNatClampNeg ((rf_i m 28 (Int32.toNatClampNeg (m.1 26 6)) a1).1 26 6)) a2).1 26 6)) a3).1 26 6)]) (rest := []) mw_X3_forget (c_X3_forget hc3) (by decide) rfl (by decide) lk_3_69 rfl rfl (Nat.le_of_ble_eq_true rfl) (by decide +kernel) ?_
  show rf_V 4 (rf_sh w) K 0 0 38 ([(0, .ref 26), (1, .int a1), (2, .int a2), (3, .int a3)], [], rf_MM w m3)
  refine rf_seg C [(.aload 0, 1), (.dup, 1), (.invokeinterface 3 6, 3), (.iconst 1, 1), (.iadd, 1), (.multianewarray 3 6, 3), (.aload 0, 1), (.invokeinterface 3 6, 3), (.iconst 1, 1), (.isub, 1)] (pc' := 54) (S' := ([(0, .ref 26), (1, .int a1), (2, .int a2), (3, .int a3)], [.int (((rf_i m3 26 6 ((m3.1 26 6) + 1)).1 26 6) - 1)], rf_MM w (rf_i m3 26 6 ((m3.1 26 6) + 1)))) (by decide +kernel) rfl trivial ?_
  obtain rfl := Option.some.inj hg
  exact rf_iret C hE (by decide +kernel)
-- X3_hasRoomFor
abbrev j_X3_hasRoomFor : rf_J := (3, yX3_hasRoomFor, cX3_hasRoomFor, 2, (some .boolean))
theorem mw_X3_hasRoomFor : rf_mv j_X3_hasRoomFor (rf_R 3) 1 := ⟨⟨rf_mem 23 (by decide +kernel), rf_mem 23 (by decide +kernel), rf_mem 0 (by decide +kernel), rf_mem 23 (by decide +kernel)⟩, by decide +kernel, by decide⟩
def g_X3_hasRoomFor (w : rf_w) (m : rf_m) (a1 : Int32) : Option (Int32 × rf_m) := (if 1200 ≤ (m.1 26 7) then some (0, m) else rf_g (rf_in ((a1 * 9) + 6) 720) ((if 20 ≤ (m.1 34 (Int32.toNatClampNeg ((a1 * 9) + 6))) then some (0, m) else some (1, m))))
theorem c_X3_hasRoomFor {w : rf_w} {m : rf_m} {a1 : Int32} {r : Int32 × rf_m} (hg : g_X3_hasRoomFor w m a1 = some r) : rf_Con j_X3_hasRoomFor 1 (rf_sh w) [.ref 26, .int a1] (rf_MM w m) (some (.int r.1)) (rf_MM w r.2) := by
  refine rf_con j_X3_hasRoomFor 1 ⟨by decide +kernel, rfl, Nat.le_of_ble_eq_true rfl⟩ (fun K C hE => ?_)
  unfold g_X3_hasRoomFor at hg
  show rf_V 2 (rf_sh w) K 0 0 0 ([(0, .ref 26), (1, .int a1)], [], rf_MM w m)
  refine rf_seg C [(.aload 0, 1), (.invokeinterface 3 7, 3), (.iconst 1200, 3)] (pc' := 7) (S' := ([(0, .ref 26), (1, .int a1)], [.int 1200, .int (m.1 26 7)], rf_MM w m)) (by decide +kernel) rfl trivial ?_
  refine rf_icmp_ge C 24 31 (by decide +kernel) (fun hc => ?_) (fun hc => ?_)
  · replace hg := (if_pos hc).symm.trans hg
    refine rf_seg C [(.iconst 0, 1)] (pc' := 32) (S' := ([(0, .ref 26), (1, .int a1)], [.int 0], rf_MM w m)) (by decide +kernel) rfl trivial ?_
    obtain rfl := Option.some.inj hg
    exact rf_zret C hE (by decide) (by decide +kernel)
  · replace hg := (if_neg hc).symm.trans hg
    obtain ⟨q0, hg⟩ := rf_g_some hg
    refine rf_seg C [(.aload 0, 1), (.invokeinterface 3 11, 3), (.iload 1, 1), (.iconst 9, 2), (.imul, 1), (.iconst 6, 2), (.iadd, 1), (.iaload, 1), (.iconst 20, 2)] (pc' := 24) (S' := ([(0, .ref 26), (1, .int a1)], [.int 20, .int (m.1 34 (Int32.toNatClampNeg ((a1 * 9) + 6)))], rf_MM w m)) (by decide +kernel) rfl (rf_in_of q0) ?_
    refine rf_icmp_ge C 7 31 (by decide +kernel) (fun hc => ?_) (fun hc => ?_)
    · replace hg := (if_pos hc).symm.trans hg
      refine rf_seg C [(.iconst 0, 1)] (pc' := 32) (S' := ([(0, .ref 26), (1, .int a1)], [.int 0], rf_MM w m)) (by decide +kernel) rfl trivial ?_
      obtain rfl := Option.some.inj hg
      exact rf_zret C hE (by decide) (by decide +kernel)
    · replace hg := (if_neg hc).symm.trans hg
      refine rf_seg C [(.iconst 1, 1)] (pc' := 28) (S' := ([(0, .ref 26), (1, .int a1)], [.int 1], rf_MM w m)) (by decide +kernel) rfl trivial ?_
      refine rf_goto C 4 32 (by decide +kernel) ?_
      obtain rfl := Option.some.inj hg
      exact rf_zret C hE (by decide) (by decide +kernel)
-- X3_addReading
abbrev j_X3_addReading : rf_J := (3, yX3_addReading, cX3_addReading, 5, (some .int))
theorem mw_X3_addReading : rf_mv j_X3_addReading (rf_R 3) 2 := ⟨⟨rf_mem 23 (by decide +kernel), rf_mem 24 (by decide +kernel), rf_mem 0 (by decide +kernel), rf_mem 24 (by decide +kernel)⟩, by decide +kernel, by decide⟩
def g_X3_addReading (w : rf_w) (m : rf_m) (a1 : Int32) (a2 : Int32) : Option (Int32 × rf_m) := rf_g (rf_in (((m.1 26 7) * 9) + 0) 10800) (rf_g (rf_in (((m.1 26 7) * 9) + 1) 10800) (rf_g (rf_in (m.1 26 7) 1200) (rf_g (rf_in ((a1 * 9) + 6) 720) (rf_vi ((rf_i (rf_i (rf_i m 32 (Int32.toNatClampNeg (((m.1 26 7) * 9) + 0)) a1) 32 (Int32.toNatClampNeg (((m.1 26 7) * 9) + 1)) a2) 36 (Int32.toNatClampNeg (m.1 26 7)) ((-1))).1 34 (Int32.toNatClampNeg ((a1 * 9) + 6))) fun x4 => rf_g (rf_in ((a1 * 20) + x4) 1600) (rf_g (rf_in ((a1 * 9) + 6) 720) (rf_bv (g_X3_forget w (rf_i (rf_i (rf_i (rf_i (rf_i (rf_i m 32 (Int32.toNatClampNeg (((m.1 26 7) * 9) + 0)) a1) 32 (Int32.toNatClampNeg (((m.1 26 7) * 9) + 1)) a2) 36 (Int32.toNatClampNeg (m.1 26 7)) ((-1))) 33 (Int32.toNatClampNeg ((a1 * 20) + x4)) (m.1 26 7)) 34 (Int32.toNatClampNeg ((a1 * 9) + 6)) (x4 + 1)) 26 7 (((rf_i (rf_i (rf_i (rf_i (rf_i m 32 (Int32.toNatClampNeg (((m.1 26 7) * 9) + 0)) a1) 32 (Int32.toNatClampNeg (((m.1 26 7) * 9) + 1)) a2) 36 (Int32.toNatClampNeg (m.1 26 7)) ((-1))) 33 (Int32.toNatClampNeg ((a1 * 20) + x4)) (m.1 26 7)) 34 (Int32.toNatClampNeg ((a1 * 9) + 6)) (x4 + 1)).1 26 7) + 1)) a1) fun m7 => some (m.1 26 7, m7)))))))
theorem c_X3_addReading {w : rf_w} {m : rf_m} {a1 : Int32} {a2 : Int32} {r : Int32 × rf_m} (hg : g_X3_addReading w m a1 a2 = some r) : rf_Con j_X3_addReading 2 (rf_sh w) [.ref 26, .int a1, .int a2] (rf_MM w m) (some (.int r.1)) (rf_MM w r.2) := by
  refine rf_con j_X3_addReading 2 ⟨by decide +kernel, rfl, Nat.le_of_ble_eq_true rfl⟩ (fun K C hE => ?_)
  unfold g_X3_addReading at hg
  show rf_V 5 (rf_sh w) K 0 0 0 ([(0, .ref 26), (1, .int a1), (2, .int a2)], [], rf_MM w m)
  obtain ⟨q0, hg⟩ := rf_g_some hg
  obtain ⟨q1, hg⟩ := rf_g_some hg
  obtain ⟨q2, hg⟩ := rf_g_some hg
  obtain ⟨q3, hg⟩ := rf_g_some hg
  refine rf_seg C [(.aload 0, 1), (.invokeinterface 3 7, 3), (.istore 3, 1), (.aload 0, 1), (.invokeinterface 3 9, 3), (.iload 3, 1), (.iconst 9, 2), (.imul, 1), (.iconst 0, 1), (.iadd, 1), (.iload 1, 1), (.iastore, 1), (.aload 0, 1), (.invokeinterface 3 9, 3), (.iload 3, 1), (.iconst 9, 2), (.imul, 1), (.iconst 1, 1), (.iadd, 1), (.iload 2, 1), (.iastore, 1), (.aload 0, 1), (.invokeinterface 3 13, 3), (.iload 3, 1), (.iconst (-1), 1), (.iastore, 1), (.aload 0, 1), (.invokeinterface 3 11, 3), (.iload 1, 1), (.iconst 9, 2), (.imul, 1), (.iconst 6, 2), (.iadd, 1), (.iaload, 1)] (pc' := 48) (S' := ([(3, .int (m.1 26 7)), (0, .ref 26), (1, .int a1), (2, .int a2)], [.int ((rf_i (rf_i (rf_i m 32 (Int32.toNatClampNeg (((m.1 26 7) * 9) + 0)) a1) 32 (Int32.toNatClampNeg (((m.1 26 7) * 9) + 1)) a2) 36 (Int32.toNatClampNeg (m.1 26 7)) ((-1))).1 34 (Int32.toNatClampNeg ((a1 * 9) + 6)))], rf_MM w (rf_i (rf_i (rf_i m 32 (Int32.toNatClampNeg (((m.1 26 7) * 9) + 0)) a1) 32 (Int32.toNatClampNeg (((m.1 26 7) * 9) + 1)) a2) 36 (Int32.toNatClampNeg (m.1 26 7)) ((-1))))) (by decide +kernel) rfl (by exact ⟨(rf_in_of q0), (rf_in_of q1), (rf_in_of q2), (rf_in_of q3)⟩) ?_
  obtain ⟨x4, hx4, hg⟩ := rf_vi_some hg
  refine rf_vi_top hx4 ?_
  obtain ⟨q5, hg⟩ := rf_g_some hg
  obtain ⟨q6, hg⟩ := rf_g_some hg
  refine rf_seg C [(.istore 4, 2), (.aload 0, 1), (.invokeinterface 3 10, 3), (.iload 1, 1), (.iconst 20, 2), (.imul, 1), (.iload 4, 2), (.iadd, 1), (.iload 3, 1), (.iastore, 1), (.aload 0, 1), (.invokeinterface 3 11, 3), (.iload 1, 1), (.iconst 9, 2), (.imul, 1), (.iconst 6, 2), (.iadd, 1), (.iload 4, 2), (.iconst 1, 1), (.iadd, 1), (.iastore, 1), (.aload 0, 1), (.dup, 1), (.invokeinterface 3 7, 3), (.iconst 1, 1), (.iadd, 1), (.multianewarray 3 7, 3), (.aload 0, 1), (.iload 1, 1)] (pc' := 91) (S' := ([(4, .int x4), (3, .int (m.1 26 7)), (0, .ref 26), (1, .int a1), (2, .int a2)], [.int a1, .ref 26], rf_MM w (rf_i (rf_i (rf_i (rf_i (rf_i (rf_i m 32 (Int32.toNatClampNeg (((m.1 26 7) * 9) + 0)) a1) 32 (Int32.toNatClampNeg (((m.1 26 7) * 9) + 1)) a2) 36 (Int32.toNatClampNeg (m.1 26 7)) ((-1))) 33 (Int32.toNatClampNeg ((a1 * 20) + x4)) (m.1 26 7)) 34 (Int32.toNatClampNeg ((a1 * 9) + 6)) (x4 + 1)) 26 7 (((rf_i (rf_i (rf_i (rf_i (rf_i m 32 (Int32.toNatClampNeg (((m.1 26 7) * 9) + 0)) a1) 32 (Int32.toNatClampNeg (((m.1 26 7) * 9) + 1)) a2) 36 (Int32.toNatClampNeg (m.1 26 7)) ((-1))) 33 (Int32.toNatClampNeg ((a1 * 20) + x4)) (m.1 26 7)) 34 (Int32.toNatClampNeg ((a1 * 9) + 6)) (x4 + 1)).1 26 7) + 1)))) (by decide +kernel) rfl (by exact ⟨(rf_in_of q5), (rf_in_of q6)⟩) ?_
  obtain ⟨m7, hc7, hg⟩ := rf_bv_some hg
  refine rf_callv C rf_fit0 j_X3_forget (ci := 3) (As := [.int a1]) (rest := []) mw_X3_forget (c_X3_forget hc7) (by decide) rfl (by decide) lk_3_69 rfl rfl (Nat.le_of_ble_eq_true rfl) (by decide +kernel) ?_
  show rf_V 5 (rf_sh w) K 0 0 94 ([(4, .int x4), (3, .int (m.1 26 7)), (0, .ref 26), (1, .int a1), (2, .int a2)], [], rf_MM w m7)
  refine rf_seg C [(.iload 3, 1)] (pc' := 95) (S' := ([(4, .int x4), (3, .int (m.1 26 7)), (0, .ref 26), (1, .int a1), (2, .int a2)], [.int (m.1 26 7)], rf_MM w m7)) (by decide +kernel) rfl trivial ?_
  obtain rfl := Option.some.inj hg
  exact rf_iret C hE (by decide +kernel)
