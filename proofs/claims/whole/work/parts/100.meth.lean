/-! methods as functions, and their contracts (written by wip/tool/gen.py) -/
-- X7_turnsIn
abbrev j_X7_turnsIn : rf_J := (7, yX7_turnsIn, cX7_turnsIn, 2, (some .int))
theorem mw_X7_turnsIn : rf_mv j_X7_turnsIn (rf_R 7) 1 := ⟨⟨rf_mem 65 (by decide +kernel), rf_mem 65 (by decide +kernel), rf_mem 1 (by decide +kernel), rf_mem 65 (by decide +kernel)⟩, by decide +kernel, by decide⟩
def g_X7_turnsIn (w : rf_w) (m : rf_m) (a1 : Int32) : Option (Int32 × rf_m) := rf_g (rf_in a1 12) (some (m.1 54 (Int32.toNatClampNeg a1), m))
theorem c_X7_turnsIn {w : rf_w} {m : rf_m} {a1 : Int32} {r : Int32 × rf_m} (hg : g_X7_turnsIn w m a1 = some r) : rf_Con j_X7_turnsIn 1 (rf_sh w) [.ref 50, .int a1] (rf_MM w m) (some (.int r.1)) (rf_MM w r.2) := by
  refine rf_con j_X7_turnsIn 1 ⟨by decide +kernel, rfl, Nat.le_of_ble_eq_true rfl⟩ (fun K C hE => ?_)
  unfold g_X7_turnsIn at hg
  show rf_V 2 (rf_sh w) K 0 0 0 ([(0, .ref 50), (1, .int a1)], [], rf_MM w m)
  obtain ⟨q0, hg⟩ := rf_g_some hg
  refine rf_seg C [(.aload 0, 1), (.invokeinterface 7 6, 3), (.iload 1, 1), (.iaload, 1)] (pc' := 6) (S' := ([(0, .ref 50), (1, .int a1)], [.int (m.1 54 (Int32.toNatClampNeg a1))], rf_MM w m)) (by decide +kernel) rfl (rf_in_of q0) ?_
  obtain rfl := Option.some.inj hg
  exact rf_iret C hE (by decide +kernel)
-- X7_sumLess__53_31
abbrev j_X7_sumLess__53_31 : rf_J := (7, yX7_sumLess, cX7_sumLess, 7, (some .int))
theorem mw_X7_sumLess__53_31 : rf_ms j_X7_sumLess__53_31 5 := ⟨⟨rf_mem 60 (by decide +kernel), rf_mem 1 (by decide +kernel), rf_mem 60 (by decide +kernel)⟩, by decide +kernel, by decide⟩
def g_X7_sumLess__53_31_6_b (w : rf_w) (rec6 : Int32 → Int32 → Int32 → Int32 → Int32 → rf_m → Option (Int32 × rf_m)) (a1 : Int32) (a2 : Int32) (a4 : Int32) (a5 : Int32) (a6 : Int32) (m : rf_m) : Option (Int32 × rf_m) := (if (a1 + a2) ≤ a6 then some (a5 - a4, m) else rf_g (rf_in a6 72) (rf_g (rf_in (m.1 53 (Int32.toNatClampNeg a6)) 80) ((if (0 : Int32) ≤ (m.1 31 (Int32.toNatClampNeg (m.1 53 (Int32.toNatClampNeg a6)))) then rf_g (rf_in a6 72) (rf_g (rf_in (m.1 53 (Int32.toNatClampNeg a6)) 80) (rf_vi (a5 + (m.1 31 (Int32.toNatClampNeg (m.1 53 (Int32.toNatClampNeg a6))))) fun x4 => rec6 a1 a2 a4 x4 (a6 + 1) m)) else some ((-2147483648), m)))))
def g_X7_sumLess__53_31_6 (w : rf_w) : Nat → Int32 → Int32 → Int32 → Int32 → Int32 → rf_m → Option (Int32 × rf_m)
  | 0, _, _, _, _, _, _ => none
  | n + 1, a1, a2, a4, a5, a6, m => g_X7_sumLess__53_31_6_b w (g_X7_sumLess__53_31_6 w n) a1 a2 a4 a5 a6 m
def g_X7_sumLess__53_31 (w : rf_w) (m : rf_m) (a1 : Int32) (a2 : Int32) (a4 : Int32) : Option (Int32 × rf_m) := g_X7_sumLess__53_31_6 w rf_fuel a1 a2 a4 0 a1 m
theorem s_X7_sumLess__53_31_6_b {w : rf_w} {K : rf_K} {r : Int32 × rf_m} (C : rf_Ctx 7 cX7_sumLess 7 1 (rf_sh w) K) (hE : rf_End (some .int) K (rf_sh w) 0 0 (some (.int r.1)) (rf_MM w r.2)) {rec6 : Int32 → Int32 → Int32 → Int32 → Int32 → rf_m → Option (Int32 × rf_m)} (hr6 : ∀ (a1 : Int32) (a2 : Int32) (a4 : Int32) (a5 : Int32) (a6 : Int32) (m : rf_m), rec6 a1 a2 a4 a5 a6 m = some r → rf_V 7 (rf_sh w) K 0 0 6 ([(0, .ref 53), (1, .int a1), (2, .int a2), (3, .ref 31), (4, .int a4), (5, .int a5), (6, .int a6)], [], rf_MM w m)) (a1 : Int32) (a2 : Int32) (a4 : Int32) (a5 : Int32) (a6 : Int32) (m : rf_m) (hg : g_X7_sumLess__53_31_6_b w rec6 a1 a2 a4 a5 a6 m = some r) : rf_V 7 (rf_sh w) K 0 0 6 ([(0, .ref 53), (1, .int a1), (2, .int a2), (3, .ref 31), (4, .int a4), (5, .int a5), (6, .int a6)], [], rf_MM w m) := by
  unfold g_X7_sumLess__53_31_6_b at hg
  refine rf_seg C [(.iload 6, 2), (.iload 1, 1), (.iload 2, 1), (.iadd, 1)] (pc' := 11) (S' := ([(0, .ref 53), (1, .int a1), (2, .int a2), (3, .ref 31), (4, .int a4), (5, .int a5), (6, .int a6)], [.int (a1 + a2), .int a6], rf_MM w m)) (by decide +kernel) rfl trivial ?_
  refine rf_icmp_ge C 32 43 (by decide +kernel) (fun hc => ?_) (fun hc => ?_)
  · replace hg := (if_pos hc).symm.trans hg
    refine rf_seg C [(.iload 5, 2), (.iload 4, 2), (.isub, 1)] (pc' := 48) (S' := ([(0, .ref 53), (1, .int a1), (2, .int a2), (3, .ref 31), (4, .int a4), (5, .int a5), (6, .int a6)], [.int (a5 - a4)], rf_MM w m)) (by decide +kernel) rfl trivial ?_
    obtain rfl := Option.some.inj hg
    exact rf_iret C hE (by decide +kernel)
  · replace hg := (if_neg hc).symm.trans hg
    obtain ⟨q0, hg⟩ := rf_g_some hg
    obtain ⟨q1, hg⟩ := rf_g_some hg
    refine rf_seg C [(.aload 3, 1), (.aload 0, 1), (.iload 6, 2), (.iaload, 1), (.iaload, 1)] (pc' := 20) (S' := ([(0, .ref 53), (1, .int a1), (2, .int a2), (3, .ref 31), (4, .int a4), (5, .int a5), (6, .int a6)], [.int (m.1 31 (Int32.toNatClampNeg (m.1 53 (Int32.toNatClampNeg a6))))], rf_MM w m)) (by decide +kernel) rfl (by exact ⟨(rf_in_of q0), (rf_in_of q1)⟩) ?_
    refine rf_if_ge C 6 26 (by decide +kernel) (fun hc => ?_) (fun hc => ?_)
    · replace hg := (if_pos hc).symm.trans hg
      obtain ⟨q2, hg⟩ := rf_g_some hg
      obtain ⟨q3, hg⟩ := rf_g_some hg
      refine rf_seg C [(.iload 5, 2), (.aload 3, 1), (.aload 0, 1), (.iload 6, 2), (.iaload, 1), (.iaload, 1), (.iadd, 1)] (pc' := 35) (S' := ([(0, .ref 53), (1, .int a1), (2, .int a2), (3, .ref 31), (4, .int a4), (5, .int a5), (6, .int a6)], [.int (a5 + (m.1 31 (Int32.toNatClampNeg (m.1 53 (Int32.toNatClampNeg a6)))))], rf_MM w m)) (by decide +kernel) rfl (by exact ⟨(rf_in_of q2), (rf_in_of q3)⟩) ?_
      obtain ⟨x4, hx4, hg⟩ := rf_vi_some hg
      refine rf_vi_top hx4 ?_
      refine rf_seg C [(.istore 5, 2), (.iinc 6 1, 3)] (pc' := 40) (S' := ([(6, .int (a6 + 1)), (5, .int x4), (0, .ref 53), (1, .int a1), (2, .int a2), (3, .ref 31), (4, .int a4)], [], rf_MM w m)) (by decide +kernel) rfl trivial ?_
      refine rf_goto C (-34) 6 (by decide +kernel) ?_
      refine rf_few [2, 3, 4, 5, 6, 1, 0] rfl ?_
      exact hr6 a1 a2 a4 x4 (a6 + 1) m hg
    · replace hg := (if_neg hc).symm.trans hg
      refine rf_seg C [(.iconst (-2147483648), 2)] (pc' := 25) (S' := ([(0, .ref 53), (1, .int a1), (2, .int a2), (3, .ref 31), (4, .int a4), (5, .int a5), (6, .int a6)], [.int ((-2147483648))], rf_MM w m)) (by decide +kernel) rfl trivial ?_
      obtain rfl := Option.some.inj hg
      exact rf_iret C hE (by decide +kernel)
theorem s_X7_sumLess__53_31_6 {w : rf_w} {K : rf_K} {r : Int32 × rf_m} (C : rf_Ctx 7 cX7_sumLess 7 1 (rf_sh w) K) (hE : rf_End (some .int) K (rf_sh w) 0 0 (some (.int r.1)) (rf_MM w r.2)) (n : Nat) : ∀ (a1 : Int32) (a2 : Int32) (a4 : Int32) (a5 : Int32) (a6 : Int32) (m : rf_m), g_X7_sumLess__53_31_6 w n a1 a2 a4 a5 a6 m = some r → rf_V 7 (rf_sh w) K 0 0 6 ([(0, .ref 53), (1, .int a1), (2, .int a2), (3, .ref 31), (4, .int a4), (5, .int a5), (6, .int a6)], [], rf_MM w m) := by
  induction n with
  | zero => intro a1 a2 a4 a5 a6 m hg; cases hg
  | succ n ih => intro a1 a2 a4 a5 a6 m hg; exact s_X7_sumLess__53_31_6_b C hE ih a1 a2 a4 a5 a6 m hg
theorem c_X7_sumLess__53_31 {w : rf_w} {m : rf_m} {a1 : Int32} {a2 : Int32} {a4 : Int32} {r : Int32 × rf_m} (hg : g_X7_sumLess__53_31 w m a1 a2 a4 = some r) : rf_Con j_X7_sumLess__53_31 1 (rf_sh w) [.ref 53, .int a1, .int a2, .ref 31, .int a4] (rf_MM w m) (some (.int r.1)) (rf_MM w r.2) := by
  refine rf_con j_X7_sumLess__53_31 1 ⟨by decide +kernel, rfl, Nat.le_of_ble_eq_true rfl⟩ (fun K C hE => ?_)
  unfold g_X7_sumLess__53_31 at hg
  show rf_V 7 (rf_sh w) K 0 0 0 ([(0, .ref 53), (1, .int a1), (2, .int a2), (3, .ref 31), (4, .int a4)], [], rf_MM w m)
  refine rf_seg C [(.iconst 0, 1), (.istore 5, 2), (.iload 1, 1), (.istore 6, 2)] (pc' := 6) (S' := ([(6, .int a1), (5, .int 0), (0, .ref 53), (1, .int a1), (2, .int a2), (3, .ref 31), (4, .int a4)], [], rf_MM w m)) (by decide +kernel) rfl trivial ?_
  refine rf_few [2, 3, 4, 5, 6, 1, 0] rfl ?_
  exact s_X7_sumLess__53_31_6 C hE rf_fuel a1 a2 a4 0 a1 m hg
-- X7_roundMiss__31
abbrev j_X7_roundMiss__31 : rf_J := (7, yX7_roundMiss, cX7_roundMiss, 3, (some .int))
theorem mw_X7_roundMiss__31 : rf_mv j_X7_roundMiss__31 (rf_R 7) 2 := ⟨⟨rf_mem 60 (by decide +kernel), rf_mem 60 (by decide +kernel), rf_mem 1 (by decide +kernel), rf_mem 60 (by decide +kernel)⟩, by decide +kernel, by decide⟩
def g_X7_roundMiss__31 (w : rf_w) (m : rf_m) (a1 : Int32) : Option (Int32 × rf_m) := rf_g (rf_in a1 12) (rf_b (g_X7_sumLess__53_31 w m (a1 * 6) (m.1 54 (Int32.toNatClampNeg a1)) 12960000) fun y1 m1 => some (y1, m1))
theorem c_X7_roundMiss__31 {w : rf_w} {m : rf_m} {a1 : Int32} {r : Int32 × rf_m} (hg : g_X7_roundMiss__31 w m a1 = some r) : rf_Con j_X7_roundMiss__31 2 (rf_sh w) [.ref 50, .int a1, .ref 31] (rf_MM w m) (some (.int r.1)) (rf_MM w r.2) := by
  refine rf_con j_X7_roundMiss__31 2 ⟨by decide +kernel, rfl, Nat.le_of_ble_eq_true rfl⟩ (fun K C hE => ?_)
  unfold g_X7_roundMiss__31 at hg
  show rf_V 3 (rf_sh w) K 0 0 0 ([(0, .ref 50), (1, .int a1), (2, .ref 31)], [], rf_MM w m)
  obtain ⟨q0, hg⟩ := rf_g_some hg
  refine rf_seg C [(.aload 0, 1), (.invokeinterface 7 5, 3), (.iload 1, 1), (.iconst 6, 2), (.imul, 1), (.aload 0, 1), (.invokeinterface 7 6, 3), (.iload 1, 1), (.iaload, 1), (.aload 2, 1), (.iconst 12960000, 2)] (pc' := 17) (S' := ([(0, .ref 50), (1, .int a1), (2, .ref 31)], [.int 12960000, .ref 31, .int (m.1 54 (Int32.toNatClampNeg a1)), .int (a1 * 6), .ref 53], rf_MM w m)) (by decide +kernel) rfl (rf_in_of q0) ?_
  obtain ⟨y1, m1, hc1, hg⟩ := rf_b_some hg
  refine rf_calls C rf_fit0 j_X7_sumLess__53_31 (As := [.ref 53, .int (a1 * 6), .int (m.1 54 (Int32.toNatClampNeg a1)), .ref 31, .int 12960000]) (rest := []) mw_X7_sumLess__53_31 (c_X7_sumLess__53_31 hc1) (by decide) lk_7_68 rfl rfl (Nat.le_of_ble_eq_true rfl) (by decide +kernel) ?_
  show rf_V 3 (rf_sh w) K 0 0 20 ([(0, .ref 50), (1, .int a1), (2, .ref 31)], [.int y1], rf_MM w m1)
  obtain rfl := Option.some.inj hg
  exact rf_iret C hE (by decide +kernel)
-- X0_take
abbrev j_X0_take : rf_J := (0, yX0_take, cX0_take, 2, (some .boolean))
theorem mw_X0_take : rf_mv j_X0_take (rf_R 0) 1 := ⟨⟨rf_mem 65 (by decide +kernel), rf_mem 65 (by decide +kernel), rf_mem 1 (by decide +kernel), rf_mem 65 (by decide +kernel)⟩, by decide +kernel, by decide⟩
def g_X0_take (w : rf_w) (m : rf_m) (a1 : Int32) : Option (Int32 × rf_m) := (if a1 = ((-2147483648)) then some (0, m) else (if (m.1 55 8) < 6 then rf_g (rf_in (m.1 55 8) 6) (some (1, rf_i (rf_i m 60 (Int32.toNatClampNeg (m.1 55 8)) a1) 55 8 (((rf_i m 60 (Int32.toNatClampNeg (m.1 55 8)) a1).1 55 8) + 1))) else some (0, m)))
theorem c_X0_take {w : rf_w} {m : rf_m} {a1 : Int32} {r : Int32 × rf_m} (hg : g_X0_take w m a1 = some r) : rf_Con j_X0_take 1 (rf_sh w) [.ref 55, .int a1] (rf_MM w m) (some (.int r.1)) (rf_MM w r.2) := by
  refine rf_con j_X0_take 1 ⟨by decide +kernel, rfl, Nat.le_of_ble_eq_true rfl⟩ (fun K C hE => ?_)
  unfold g_X0_take at hg
  show rf_V 2 (rf_sh w) K 0 0 0 ([(0, .ref 55), (1, .int a1)], [], rf_MM w m)
  refine rf_seg C [(.iload 1, 1), (.iconst (-2147483648), 2)] (pc' := 3) (S' := ([(0, .ref 55), (1, .int a1)], [.int ((-2147483648)), .int a1], rf_MM w m)) (by decide +kernel) rfl trivial ?_
  refine rf_icmp_eq C 12 15 (by decide +kernel) (fun hc => ?_) (fun hc => ?_)
  · replace hg := (if_pos hc).symm.trans hg
    refine rf_seg C [(.iconst 0, 1)] (pc' := 16) (S' := ([(0, .ref 55), (1, .int a1)], [.int 0], rf_MM w m)) (by decide +kernel) rfl trivial ?_
    obtain rfl := Option.some.inj hg
    exact rf_zret C hE (by decide) (by decide +kernel)
  · replace hg := (if_neg hc).symm.trans hg
    refine rf_seg C [(.aload 0, 1), (.invokeinterface 0 8, 3), (.iconst 6, 2)] (pc' := 12) (S' := ([(0, .ref 55), (1, .int a1)], [.int 6, .int (m.1 55 8)], rf_MM w m)) (by decide +kernel) rfl trivial ?_
    refine rf_icmp_lt C 5 17 (by decide +kernel) (fun hc => ?_) (fun hc => ?_)
    · replace hg := (if_pos hc).symm.trans hg
      obtain ⟨q0, hg⟩ := rf_g_some hg
      refine rf_seg C [(.aload 0, 1), (.invokeinterface 0 7, 3), (.aload 0, 1), (.invokeinterface 0 8, 3), (.iload 1, 1), (.iastore, 1), (.aload 0, 1), (.dup, 1), (.invokeinterface 0 8, 3), (.iconst 1, 1), (.iadd, 1), (.multianewarray 0 8, 3), (.iconst 1, 1)] (pc' := 38) (S' := ([(0, .ref 55), (1, .int a1)], [.int 1], rf_MM w (rf_i (rf_i m 60 (Int32.toNatClampNeg (m.1 55 8)) a1) 55 8 (((rf_i m 60 (Int32.toNatClampNeg (m.1 55 8)) a1).1 55 8) + 1)))) (by decide +kernel) rfl (rf_in_of q0) ?_
      obtain rfl := Option.some.inj hg
      exact rf_zret C hE (by decide) (by decide +kernel)
    · replace hg := (if_neg hc).symm.trans hg
      refine rf_seg C [(.iconst 0, 1)] (pc' := 16) (S' := ([(0, .ref 55), (1, .int a1)], [.int 0], rf_MM w m)) (by decide +kernel) rfl trivial ?_
      obtain rfl := Option.some.inj hg
      exact rf_zret C hE (by decide) (by decide +kernel)
-- X7_turnOf
abbrev j_X7_turnOf : rf_J := (7, yX7_turnOf, cX7_turnOf, 3, (some .int))
theorem mw_X7_turnOf : rf_mv j_X7_turnOf (rf_R 7) 2 := ⟨⟨rf_mem 65 (by decide +kernel), rf_mem 65 (by decide +kernel), rf_mem 1 (by decide +kernel), rf_mem 65 (by decide +kernel)⟩, by decide +kernel, by decide⟩
def g_X7_turnOf (w : rf_w) (m : rf_m) (a1 : Int32) (a2 : Int32) : Option (Int32 × rf_m) := rf_g (rf_in ((a1 * 6) + a2) 72) (some (m.1 53 (Int32.toNatClampNeg ((a1 * 6) + a2)), m))
theorem c_X7_turnOf {w : rf_w} {m : rf_m} {a1 : Int32} {a2 : Int32} {r : Int32 × rf_m} (hg : g_X7_turnOf w m a1 a2 = some r) : rf_Con j_X7_turnOf 1 (rf_sh w) [.ref 50, .int a1, .int a2] (rf_MM w m) (some (.int r.1)) (rf_MM w r.2) := by
  refine rf_con j_X7_turnOf 1 ⟨by decide +kernel, rfl, Nat.le_of_ble_eq_true rfl⟩ (fun K C hE => ?_)
  unfold g_X7_turnOf at hg
  show rf_V 3 (rf_sh w) K 0 0 0 ([(0, .ref 50), (1, .int a1), (2, .int a2)], [], rf_MM w m)
  obtain ⟨q0, hg⟩ := rf_g_some hg
  refine rf_seg C [(.aload 0, 1), (.invokeinterface 7 5, 3), (.iload 1, 1), (.iconst 6, 2), (.imul, 1), (.iload 2, 1), (.iadd, 1), (.iaload, 1)] (pc' := 11) (S' := ([(0, .ref 50), (1, .int a1), (2, .int a2)], [.int (m.1 53 (Int32.toNatClampNeg ((a1 * 6) + a2)))], rf_MM w m)) (by decide +kernel) rfl (rf_in_of q0) ?_
  obtain rfl := Option.some.inj hg
  exact rf_iret C hE (by decide +kernel)
-- X7_sumLess__51_31
abbrev j_X7_sumLess__51_31 : rf_J := (7, yX7_sumLess, cX7_sumLess, 7, (some .int))
theorem mw_X7_sumLess__51_31 : rf_ms j_X7_sumLess__51_31 5 := ⟨⟨rf_mem 60 (by decide +kernel), rf_mem 1 (by decide +kernel), rf_mem 60 (by decide +kernel)⟩, by decide +kernel, by decide⟩
def g_X7_sumLess__51_31_6_b (w : rf_w) (rec6 : Int32 → Int32 → Int32 → Int32 → Int32 → rf_m → Option (Int32 × rf_m)) (a1 : Int32) (a2 : Int32) (a4 : Int32) (a5 : Int32) (a6 : Int32) (m : rf_m) : Option (Int32 × rf_m) := (if (a1 + a2) ≤ a6 then some (a5 - a4, m) else rf_g (rf_in a6 90) (rf_g (rf_in (m.1 51 (Int32.toNatClampNeg a6)) 80) ((if (0 : Int32) ≤ (m.1 31 (Int32.toNatClampNeg (m.1 51 (Int32.toNatClampNeg a6)))) then rf_g (rf_in a6 90) (rf_g (rf_in (m.1 51 (Int32.toNatClampNeg a6)) 80) (rf_vi (a5 + (m.1 31 (Int32.toNatClampNeg (m.1 51 (Int32.toNatClampNeg a6))))) fun x4 => rec6 a1 a2 a4 x4 (a6 + 1) m)) else some ((-2147483648), m)))))
def g_X7_sumLess__51_31_6 (w : rf_w) : Nat → Int32 → Int32 → Int32 → Int32 → Int32 → rf_m → Option (Int32 × rf_m)
  | 0, _, _, _, _, _, _ => none
  | n + 1, a1, a2, a4, a5, a6, m => g_X7_sumLess__51_31_6_b w (g_X7_sumLess__51_31_6 w n) a1 a2 a4 a5 a6 m
def g_X7_sumLess__51_31 (w : rf_w) (m : rf_m) (a1 : Int32) (a2 : Int32) (a4 : Int32) : Option (Int32 × rf_m) := g_X7_sumLess__51_31_6 w rf_fuel a1 a2 a4 0 a1 m
theorem s_X7_sumLess__51_31_6_b {w : rf_w} {K : rf_K} {r : Int32 × rf_m} (C : rf_Ctx 7 cX7_sumLess 7 1 (rf_sh w) K) (hE : rf_End (some .int) K (rf_sh w) 0 0 (some (.int r.1)) (rf_MM w r.2)) {rec6 : Int32 → Int32 → Int32 → Int32 → Int32 → rf_m → Option (Int32 × rf_m)} (hr6 : ∀ (a1 : Int32) (a2 : Int32) (a4 : Int32) (a5 : Int32) (a6 : Int32) (m : rf_m), rec6 a1 a2 a4 a5 a6 m = some r → rf_V 7 (rf_sh w) K 0 0 6 ([(0, .ref 51), (1, .int a1), (2, .int a2), (3, .ref 31), (4, .int a4), (5, .int a5), (6, .int a6)], [], rf_MM w m)) (a1 : Int32) (a2 : Int32) (a4 : Int32) (a5 : Int32) (a6 : Int32) (m : rf_m) (hg : g_X7_sumLess__51_31_6_b w rec6 a1 a2 a4 a5 a6 m = some r) : rf_V 7 (rf_sh w) K 0 0 6 ([(0, .ref 51), (1, .int a1), (2, .int a2), (3, .ref 31), (4, .int a4), (5, .int a5), (6, .int a6)], [], rf_MM w m) := by
  unfold g_X7_sumLess__51_31_6_b at hg
  refine rf_seg C [(.iload 6, 2), (.iload 1, 1), (.iload 2, 1), (.iadd, 1)] (pc' := 11) (S' := ([(0, .ref 51), (1, .int a1), (2, .int a2), (3, .ref 31), (4, .int a4), (5, .int a5), (6, .int a6)], [.int (a1 + a2), .int a6], rf_MM w m)) (by decide +kernel) rfl trivial ?_
  refine rf_icmp_ge C 32 43 (by decide +kernel) (fun hc => ?_) (fun hc => ?_)
  · replace hg := (if_pos hc).symm.trans hg
    refine rf_seg C [(.iload 5, 2), (.iload 4, 2), (.isub, 1)] (pc' := 48) (S' := ([(0, .ref 51), (1, .int a1), (2, .int a2), (3, .ref 31), (4, .int a4), (5, .int a5), (6, .int a6)], [.int (a5 - a4)], rf_MM w m)) (by decide +kernel) rfl trivial ?_
    obtain rfl := Option.some.inj hg
    exact rf_iret C hE (by decide +kernel)
  · replace hg := (if_neg hc).symm.trans hg
    obtain ⟨q0, hg⟩ := rf_g_some hg
    obtain ⟨q1, hg⟩ := rf_g_some hg
    refine rf_seg C [(.aload 3, 1), (.aload 0, 1), (.iload 6, 2), (.iaload, 1), (.iaload, 1)] (pc' := 20) (S' := ([(0, .ref 51), (1, .int a1), (2, .int a2), (3, .ref 31), (4, .int a4), (5, .int a5), (6, .int a6)], [.int (m.1 31 (Int32.toNatClampNeg (m.1 51 (Int32.toNatClampNeg a6))))], rf_MM w m)) (by decide +kernel) rfl (by exact ⟨(rf_in_of q0), (rf_in_of q1)⟩) ?_
    refine rf_if_ge C 6 26 (by decide +kernel) (fun hc => ?_) (fun hc => ?_)
    · replace hg := (if_pos hc).symm.trans hg
      obtain ⟨q2, hg⟩ := rf_g_some hg
      obtain ⟨q3, hg⟩ := rf_g_some hg
      refine rf_seg C [(.iload 5, 2), (.aload 3, 1), (.aload 0, 1), (.iload 6, 2), (.iaload, 1), (.iaload, 1), (.iadd, 1)] (pc' := 35) (S' := ([(0, .ref 51), (1, .int a1), (2, .int a2), (3, .ref 31), (4, .int a4), (5, .int a5), (6, .int a6)], [.int (a5 + (m.1 31 (Int32.toNatClampNeg (m.1 51 (Int32.toNatClampNeg a6)))))], rf_MM w m)) (by decide +kernel) rfl (by exact ⟨(rf_in_of q2), (rf_in_of q3)⟩) ?_
      obtain ⟨x4, hx4, hg⟩ := rf_vi_some hg
      refine rf_vi_top hx4 ?_
      refine rf_seg C [(.istore 5, 2), (.iinc 6 1, 3)] (pc' := 40) (S' := ([(6, .int (a6 + 1)), (5, .int x4), (0, .ref 51), (1, .int a1), (2, .int a2), (3, .ref 31), (4, .int a4)], [], rf_MM w m)) (by decide +kernel) rfl trivial ?_
      refine rf_goto C (-34) 6 (by decide +kernel) ?_
      refine rf_few [2, 3, 4, 5, 6, 1, 0] rfl ?_
      exact hr6 a1 a2 a4 x4 (a6 + 1) m hg
    · replace hg := (if_neg hc).symm.trans hg
      refine rf_seg C [(.iconst (-2147483648), 2)] (pc' := 25) (S' := ([(0, .ref 51), (1, .int a1), (2, .int a2), (3, .ref 31), (4, .int a4), (5, .int a5), (6, .int a6)], [.int ((-2147483648))], rf_MM w m)) (by decide +kernel) rfl trivial ?_
      obtain rfl := Option.some.inj hg
      exact rf_iret C hE (by decide +kernel)
theorem s_X7_sumLess__51_31_6 {w : rf_w} {K : rf_K} {r : Int32 × rf_m} (C : rf_Ctx 7 cX7_sumLess 7 1 (rf_sh w) K) (hE : rf_End (some .int) K (rf_sh w) 0 0 (some (.int r.1)) (rf_MM w r.2)) (n : Nat) : ∀ (a1 : Int32) (a2 : Int32) (a4 : Int32) (a5 : Int32) (a6 : Int32) (m : rf_m), g_X7_sumLess__51_31_6 w n a1 a2 a4 a5 a6 m = some r → rf_V 7 (rf_sh w) K 0 0 6 ([(0, .ref 51), (1, .int a1), (2, .int a2), (3, .ref 31), (4, .int a4), (5, .int a5), (6, .int a6)], [], rf_MM w m) := by
  induction n with
  | zero => intro a1 a2 a4 a5 a6 m hg; cases hg
  | succ n ih => intro a1 a2 a4 a5 a6 m hg; exact s_X7_sumLess__51_31_6_b C hE ih a1 a2 a4 a5 a6 m hg
theorem c_X7_sumLess__51_31 {w : rf_w} {m : rf_m} {a1 : Int32} {a2 : Int32} {a4 : Int32} {r : Int32 × rf_m} (hg : g_X7_sumLess__51_31 w m a1 a2 a4 = some r) : rf_Con j_X7_sumLess__51_31 1 (rf_sh w) [.ref 51, .int a1, .int a2, .ref 31, .int a4] (rf_MM w m) (some (.int r.1)) (rf_MM w r.2) := by
  refine rf_con j_X7_sumLess__51_31 1 ⟨by decide +kernel, rfl, Nat.le_of_ble_eq_true rfl⟩ (fun K C hE => ?_)
  unfold g_X7_sumLess__51_31 at hg
  show rf_V 7 (rf_sh w) K 0 0 0 ([(0, .ref 51), (1, .int a1), (2, .int a2), (3, .ref 31), (4, .int a4)], [], rf_MM w m)
  refine rf_seg C [(.iconst 0, 1), (.istore 5, 2), (.iload 1, 1), (.istore 6, 2)] (pc' := 6) (S' := ([(6, .int a1), (5, .int 0), (0, .ref 51), (1, .int a1), (2, .int a2), (3, .ref 31), (4, .int a4)], [], rf_MM w m)) (by decide +kernel) rfl trivial ?_
  refine rf_few [2, 3, 4, 5, 6, 1, 0] rfl ?_
  exact s_X7_sumLess__51_31_6 C hE rf_fuel a1 a2 a4 0 a1 m hg
-- X7_triangleMiss__31
abbrev j_X7_triangleMiss__31 : rf_J := (7, yX7_triangleMiss, cX7_triangleMiss, 3, (some .int))
theorem mw_X7_triangleMiss__31 : rf_mv j_X7_triangleMiss__31 (rf_R 7) 2 := ⟨⟨rf_mem 60 (by decide +kernel), rf_mem 60 (by decide +kernel), rf_mem 1 (by decide +kernel), rf_mem 60 (by decide +kernel)⟩, by decide +kernel, by decide⟩
def g_X7_triangleMiss__31 (w : rf_w) (m : rf_m) (a1 : Int32) : Option (Int32 × rf_m) := rf_g (rf_in a1 30) (rf_b (g_X7_sumLess__51_31 w m (a1 * 3) 3 (6480000 + (m.1 52 (Int32.toNatClampNeg a1)))) fun y1 m1 => some (y1, m1))
theorem c_X7_triangleMiss__31 {w : rf_w} {m : rf_m} {a1 : Int32} {r : Int32 × rf_m} (hg : g_X7_triangleMiss__31 w m a1 = some r) : rf_Con j_X7_triangleMiss__31 2 (rf_sh w) [.ref 50, .int a1, .ref 31] (rf_MM w m) (some (.int r.1)) (rf_MM w r.2) := by
  refine rf_con j_X7_triangleMiss__31 2 ⟨by decide +kernel, rfl, Nat.le_of_ble_eq_true rfl⟩ (fun K C hE => ?_)
  unfold g_X7_triangleMiss__31 at hg
  show rf_V 3 (rf_sh w) K 0 0 0 ([(0, .ref 50), (1, .int a1), (2, .ref 31)], [], rf_MM w m)
  obtain ⟨q0, hg⟩ := rf_g_some hg
  refine rf_seg C [(.aload 0, 1), (.invokeinterface 7 3, 3), (.iload 1, 1), (.iconst 3, 1), (.imul, 1), (.iconst 3, 1), (.aload 2, 1), (.iconst 6480000, 2), (.aload 0, 1), (.invokeinterface 7 4, 3), (.iload 1, 1), (.iaload, 1), (.iadd, 1)] (pc' := 18) (S' := ([(0, .ref 50), (1, .int a1), (2, .ref 31)], [.int (6480000 + (m.1 52 (Int32.toNatClampNeg a1))), .ref 31, .int 3, .int (a1 * 3), .ref 51], rf_MM w m)) (by decide +kernel) rfl (rf_in_of q0) ?_
  obtain ⟨y1, m1, hc1, hg⟩ := rf_b_some hg
  refine rf_calls C rf_fit0 j_X7_sumLess__51_31 (As := [.ref 51, .int (a1 * 3), .int 3, .ref 31, .int (6480000 + (m.1 52 (Int32.toNatClampNeg a1)))]) (rest := []) mw_X7_sumLess__51_31 (c_X7_sumLess__51_31 hc1) (by decide) lk_7_68 rfl rfl (Nat.le_of_ble_eq_true rfl) (by decide +kernel) ?_
  show rf_V 3 (rf_sh w) K 0 0 21 ([(0, .ref 50), (1, .int a1), (2, .ref 31)], [.int y1], rf_MM w m1)
  obtain rfl := Option.some.inj hg
  exact rf_iret C hE (by decide +kernel)
-- X7_cornerOf
abbrev j_X7_cornerOf : rf_J := (7, yX7_cornerOf, cX7_cornerOf, 3, (some .int))
theorem mw_X7_cornerOf : rf_mv j_X7_cornerOf (rf_R 7) 2 := ⟨⟨rf_mem 62 (by decide +kernel), rf_mem 62 (by decide +kernel), rf_mem 1 (by decide +kernel), rf_mem 62 (by decide +kernel)⟩, by decide +kernel, by decide⟩
def g_X7_cornerOf (w : rf_w) (m : rf_m) (a1 : Int32) (a2 : Int32) : Option (Int32 × rf_m) := rf_g (rf_in ((a1 * 3) + a2) 90) (some (m.1 51 (Int32.toNatClampNeg ((a1 * 3) + a2)), m))
theorem c_X7_cornerOf {w : rf_w} {m : rf_m} {a1 : Int32} {a2 : Int32} {r : Int32 × rf_m} (hg : g_X7_cornerOf w m a1 a2 = some r) : rf_Con j_X7_cornerOf 1 (rf_sh w) [.ref 50, .int a1, .int a2] (rf_MM w m) (some (.int r.1)) (rf_MM w r.2) := by
  refine rf_con j_X7_cornerOf 1 ⟨by decide +kernel, rfl, Nat.le_of_ble_eq_true rfl⟩ (fun K C hE => ?_)
  unfold g_X7_cornerOf at hg
  show rf_V 3 (rf_sh w) K 0 0 0 ([(0, .ref 50), (1, .int a1), (2, .int a2)], [], rf_MM w m)
  obtain ⟨q0, hg⟩ := rf_g_some hg
  refine rf_seg C [(.aload 0, 1), (.invokeinterface 7 3, 3), (.iload 1, 1), (.iconst 3, 1), (.imul, 1), (.iload 2, 1), (.iadd, 1), (.iaload, 1)] (pc' := 10) (S' := ([(0, .ref 50), (1, .int a1), (2, .int a2)], [.int (m.1 51 (Int32.toNatClampNeg ((a1 * 3) + a2)))], rf_MM w m)) (by decide +kernel) rfl (rf_in_of q0) ?_
  obtain rfl := Option.some.inj hg
  exact rf_iret C hE (by decide +kernel)
-- J7_fill_53178__56
abbrev j_J7_fill_53178__56 : rf_J := (30, yJ7_fill_53178, cJ7_fill_53178, 4, none)
theorem mw_J7_fill_53178__56 : rf_ms j_J7_fill_53178__56 2 := ⟨⟨rf_mem 26 (by decide +kernel), rf_mem 26 (by decide +kernel), rf_mem 26 (by decide +kernel)⟩, by decide +kernel, by decide⟩
def g_J7_fill_53178__56_5_b (w : rf_w) (rec5 : Int32 → Int32 → Int32 → rf_m → Option (rf_m)) (a1 : Int32) (a2 : Int32) (a3 : Int32) (m : rf_m) : Option (rf_m) := (if a3 ≤ a2 then some m else rf_g (rf_in a2 80) (rec5 a1 (a2 + 1) a3 (rf_i m 56 (Int32.toNatClampNeg a2) a1)))
def g_J7_fill_53178__56_5 (w : rf_w) : Nat → Int32 → Int32 → Int32 → rf_m → Option (rf_m)
  | 0, _, _, _, _ => none
  | n + 1, a1, a2, a3, m => g_J7_fill_53178__56_5_b w (g_J7_fill_53178__56_5 w n) a1 a2 a3 m
def g_J7_fill_53178__56 (w : rf_w) (m : rf_m) (a1 : Int32) : Option (rf_m) := g_J7_fill_53178__56_5 w rf_fuel a1 0 80 m
theorem s_J7_fill_53178__56_5_b {w : rf_w} {K : rf_K} {r : rf_m} (C : rf_Ctx 30 cJ7_fill_53178 4 1 (rf_sh w) K) (hE : rf_End none K (rf_sh w) 0 0 none (rf_MM w r)) {rec5 : Int32 → Int32 → Int32 → rf_m → Option (rf_m)} (hr5 : ∀ (a1 : Int32) (a2 : Int32) (a3 : Int32) (m : rf_m), rec5 a1 a2 a3 m = some r → rf_V 4 (rf_sh w) K 0 0 5 ([(0, .ref 56), (1, .int a1), (2, .int a2), (3, .int a3)], [], rf_MM w m)) (a1 : Int32) (a2 : Int32) (a3 : Int32) (m : rf_m) (hg : g_J7_fill_53178__56_5_b w rec5 a1 a2 a3 m = some r) : rf_V 4 (rf_sh w) K 0 0 5 ([(0, .ref 56), (1, .int a1), (2, .int a2), (3, .int a3)], [], rf_MM w m) := by
  unfold g_J7_fill_53178__56_5_b at hg
  refine rf_seg C [(.iload 2, 1), (.iload 3, 1)] (pc' := 7) (S' := ([(0, .ref 56), (1, .int a1), (2, .int a2), (3, .int a3)], [.int a3, .int a2], rf_MM w m)) (by decide +kernel) rfl trivial ?_
  refine rf_icmp_ge C 13 20 (by decide +kernel) (fun hc => ?_) (fun hc => ?_)
  · replace hg := (if_pos hc).symm.trans hg
    obtain rfl := Option.some.inj hg
    exact rf_vret C hE (by decide +kernel)
  · replace hg := (if_neg hc).symm.trans hg
    obtain ⟨q0, hg⟩ := rf_g_some hg
    refine rf_seg C [(.aload 0, 1), (.iload 2, 1), (.iload 1, 1), (.iastore, 1), (.iinc 2 1, 3)] (pc' := 17) (S' := ([(2, .int (a2 + 1)), (0, .ref 56), (1, .int a1), (3, .int a3)], [], rf_MM w (rf_i m 56 (Int32.toNatClampNeg a2) a1))) (by decide +kernel) rfl (rf_in_of q0) ?_
    refine rf_goto C (-12) 5 (by decide +kernel) ?_
    refine rf_few [1, 2, 0, 3] rfl ?_
    exact hr5 a1 (a2 + 1) a3 (rf_i m 56 (Int32.toNatClampNeg a2) a1) hg
theorem s_J7_fill_53178__56_5 {w : rf_w} {K : rf_K} {r : rf_m} (C : rf_Ctx 30 cJ7_fill_53178 4 1 (rf_sh w) K) (hE : rf_End none K (rf_sh w) 0 0 none (rf_MM w r)) (n : Nat) : ∀ (a1 : Int32) (a2 : Int32) (a3 : Int32) (m : rf_m), g_J7_fill_53178__56_5 w n a1 a2 a3 m = some r → rf_V 4 (rf_sh w) K 0 0 5 ([(0, .ref 56), (1, .int a1), (2, .int a2), (3, .int a3)], [], rf_MM w m) := by
  induction n with
  | zero => intro a1 a2 a3 m hg; cases hg
  | succ n ih => intro a1 a2 a3 m hg; exact s_J7_fill_53178__56_5_b C hE ih a1 a2 a3 m hg
theorem c_J7_fill_53178__56 {w : rf_w} {m : rf_m} {a1 : Int32} {r : rf_m} (hg : g_J7_fill_53178__56 w m a1 = some r) : rf_Con j_J7_fill_53178__56 1 (rf_sh w) [.ref 56, .int a1] (rf_MM w m) none (rf_MM w r) := by
  refine rf_con j_J7_fill_53178__56 1 ⟨by decide +kernel, rfl, Nat.le_of_ble_eq_true rfl⟩ (fun K C hE => ?_)
  unfold g_J7_fill_53178__56 at hg
  show rf_V 4 (rf_sh w) K 0 0 0 ([(0, .ref 56), (1, .int a1)], [], rf_MM w m)
  refine rf_seg C [(.iconst 0, 1), (.istore 2, 1), (.aload 0, 1), (.arraylength, 1), (.istore 3, 1)] (pc' := 5) (S' := ([(3, .int 80), (2, .int 0), (0, .ref 56), (1, .int a1)], [], rf_MM w m)) (by decide +kernel) rfl trivial ?_
  refine rf_few [2, 3, 1, 0] rfl ?_
  exact s_J7_fill_53178__56_5 C hE rf_fuel a1 0 80 m hg
-- X0_gather
abbrev j_X0_gather : rf_J := (0, yX0_gather, cX0_gather, 5, (some .boolean))
theorem mw_X0_gather : rf_mv j_X0_gather (rf_R 0) 2 := ⟨⟨rf_mem 64 (by decide +kernel), rf_mem 64 (by decide +kernel), rf_mem 1 (by decide +kernel), rf_mem 64 (by decide +kernel)⟩, by decide +kernel, by decide⟩
def g_X0_gather_194 (w : rf_w) (rec105 : Int32 → Int32 → rf_m → Option (Int32 × rf_m)) (a2 : Int32) (a3 : Int32) (m : rf_m) : Option (Int32 × rf_m) := rec105 a2 (a3 + 1) m
def g_X0_gather_127_b (w : rf_w) (rec105 : Int32 → Int32 → rf_m → Option (Int32 × rf_m)) (rec127 : Int32 → Int32 → Int32 → rf_m → Option (Int32 × rf_m)) (a2 : Int32) (a3 : Int32) (a4 : Int32) (m : rf_m) : Option (Int32 × rf_m) := rf_b (g_X7_turnsIn w m a3) fun y0 m0 => (if y0 ≤ a4 then rf_b (g_X7_roundMiss__31 w m0 a3) fun y1 m1 => rf_b (g_X0_take w m1 y1) fun y2 m2 => (if y2 = 0 then some (0, m2) else g_X0_gather_194 w rec105 a2 a3 m2) else rf_b (g_X7_turnOf w m0 a3 a4) fun y3 m3 => rf_g (rf_in y3 80) (rf_g (rf_in y3 80) (rec127 a2 a3 (a4 + 1) (rf_i m3 56 (Int32.toNatClampNeg y3) ((m3.1 56 (Int32.toNatClampNeg y3)) ||| ((1 : Int32) <<< ((m3.1 55 8) &&& 31)))))))
def g_X0_gather_127 (w : rf_w) (rec105 : Int32 → Int32 → rf_m → Option (Int32 × rf_m)) : Nat → Int32 → Int32 → Int32 → rf_m → Option (Int32 × rf_m)
  | 0, _, _, _, _ => none
  | n + 1, a2, a3, a4, m => g_X0_gather_127_b w rec105 (g_X0_gather_127 w rec105 n) a2 a3 a4 m
def g_X0_gather_105_b (w : rf_w) (rec105 : Int32 → Int32 → rf_m → Option (Int32 × rf_m)) (a2 : Int32) (a3 : Int32) (m : rf_m) : Option (Int32 × rf_m) := (if (m.1 50 1) ≤ a3 then some (1, m) else (if (((Int32.toUInt32 a2 >>> (Int32.toUInt32 a3 &&& Int32.toUInt32 31)).toInt32) &&& 1) = 0 then g_X0_gather_194 w rec105 a2 a3 m else g_X0_gather_127 w rec105 rf_fuel a2 a3 0 m))
def g_X0_gather_105 (w : rf_w) : Nat → Int32 → Int32 → rf_m → Option (Int32 × rf_m)
  | 0, _, _, _ => none
  | n + 1, a2, a3, m => g_X0_gather_105_b w (g_X0_gather_105 w n) a2 a3 m
def g_X0_gather_97 (w : rf_w) (rec15 : Int32 → Int32 → Int32 → rf_m → Option (Int32 × rf_m)) (a1 : Int32) (a2 : Int32) (a3 : Int32) (m : rf_m) : Option (Int32 × rf_m) := rec15 a1 a2 (a3 + 1) m
def g_X0_gather_37_b (w : rf_w) (rec15 : Int32 → Int32 → Int32 → rf_m → Option (Int32 × rf_m)) (rec37 : Int32 → Int32 → Int32 → Int32 → rf_m → Option (Int32 × rf_m)) (a1 : Int32) (a2 : Int32) (a3 : Int32) (a4 : Int32) (m : rf_m) : Option (Int32 × rf_m) := (if 3 ≤ a4 then rf_b (g_X7_triangleMiss__31 w m a3) fun y0 m0 => rf_b (g_X0_take w m0 y0) fun y1 m1 => (if y1 = 0 then some (0, m1) else g_X0_gather_97 w rec15 a1 a2 a3 m1) else rf_b (g_X7_cornerOf w m a3 a4) fun y2 m2 => rf_g (rf_in y2 80) (rf_g (rf_in y2 80) (rec37 a1 a2 a3 (a4 + 1) (rf_i m2 56 (Int32.toNatClampNeg y2) ((m2.1 56 (Int32.toNatClampNeg y2)) ||| ((1 : Int32) <<< ((m2.1 55 8) &&& 31)))))))
def g_X0_gather_37 (w : rf_w) (rec15 : Int32 → Int32 → Int32 → rf_m → Option (Int32 × rf_m)) : Nat → Int32 → Int32 → Int32 → Int32 → rf_m → Option (Int32 × rf_m)
  | 0, _, _, _, _, _ => none
  | n + 1, a1, a2, a3, a4, m => g_X0_gather_37_b w rec15 (g_X0_gather_37 w rec15 n) a1 a2 a3 a4 m
def g_X0_gather_15_b (w : rf_w) (rec15 : Int32 → Int32 → Int32 → rf_m → Option (Int32 × rf_m)) (a1 : Int32) (a2 : Int32) (a3 : Int32) (m : rf_m) : Option (Int32 × rf_m) := (if (m.1 50 0) ≤ a3 then g_X0_gather_105 w rf_fuel a2 0 m else (if (((Int32.toUInt32 a1 >>> (Int32.toUInt32 a3 &&& Int32.toUInt32 31)).toInt32) &&& 1) = 0 then g_X0_gather_97 w rec15 a1 a2 a3 m else g_X0_gather_37 w rec15 rf_fuel a1 a2 a3 0 m))
def g_X0_gather_15 (w : rf_w) : Nat → Int32 → Int32 → Int32 → rf_m → Option (Int32 × rf_m)
  | 0, _, _, _, _ => none
  | n + 1, a1, a2, a3, m => g_X0_gather_15_b w (g_X0_gather_15 w n) a1 a2 a3 m
def g_X0_gather (w : rf_w) (m : rf_m) (a1 : Int32) (a2 : Int32) : Option (Int32 × rf_m) := rf_bv (g_J7_fill_53178__56 w m 0) fun m0 => g_X0_gather_15 w rf_fuel a1 a2 0 (rf_i m0 55 8 0)
theorem s_X0_gather_194 {w : rf_w} {K : rf_K} {r : Int32 × rf_m} (C : rf_Ctx 0 cX0_gather 5 3 (rf_sh w) K) (hE : rf_End (some .boolean) K (rf_sh w) 0 0 (some (.int r.1)) (rf_MM w r.2)) {rec105 : Int32 → Int32 → rf_m → Option (Int32 × rf_m)} (hr105 : ∀ (a2 : Int32) (a3 : Int32) (m : rf_m), rec105 a2 a3 m = some r → rf_V 5 (rf_sh w) K 0 0 105 ([(0, .ref 55), (2, .int a2), (3, .int a3)], [], rf_MM w m)) (a2 : Int32) (a3 : Int32) (m : rf_m) (hg : g_X0_gather_194 w rec105 a2 a3 m = some r) : rf_V 5 (rf_sh w) K 0 0 194 ([(0, .ref 55), (2, .int a2), (3, .int a3)], [], rf_MM w m) := by
  unfold g_X0_gather_194 at hg
  refine rf_seg C [(.iinc 3 1, 3)] (pc' := 197) (S' := ([(3, .int (a3 + 1)), (0, .ref 55), (2, .int a2)], [], rf_MM w m)) (by decide +kernel) rfl trivial ?_
  refine rf_goto C (-92) 105 (by decide +kernel) ?_
  refine rf_few [1, 2, 0] rfl ?_
  exact hr105 a2 (a3 + 1) m hg
theorem s_X0_gather_127_b {w : rf_w} {K : rf_K} {r : Int32 × rf_m} (C : rf_Ctx 0 cX0_gather 5 3 (rf_sh w) K) (hE : rf_End (some .boolean) K (rf_sh w) 0 0 (some (.int r.1)) (rf_MM w r.2)) {rec105 : Int32 → Int32 → rf_m → Option (Int32 × rf_m)} {rec127 : Int32 → Int32 → Int32 → rf_m → Option (Int32 × rf_m)} (hr105 : ∀ (a2 : Int32) (a3 : Int32) (m : rf_m), rec105 a2 a3 m = some r → rf_V 5 (rf_sh w) K 0 0 105 ([(0, .ref 55), (2, .int a2), (3, .int a3)], [], rf_MM w m)) (hr127 : ∀ (a2 : Int32) (a3 : Int32) (a4 : Int32) (m : rf_m), rec127 a2 a3 a4 m = some r → rf_V 5 (rf_sh w) K 0 0 127 ([(0, .ref 55), (2, .int a2), (3, .int a3), (4, .int a4)], [], rf_MM w m)) (a2 : Int32) (a3 : Int32) (a4 : Int32) (m : rf_m) (hg : g_X0_gather_127_b w rec105 rec127 a2 a3 a4 m = some r) : rf_V 5 (rf_sh w) K 0 0 127 ([(0, .ref 55), (2, .int a2), (3, .int a3), (4, .int a4)], [], rf_MM w m) := by
  unfold g_X0_gather_127_b at hg
  refine rf_seg C [(.iload 4, 2), (.aload 0, 1), (.invokeinterface 0 2, 3), (.iload 3, 1)] (pc' := 134) (S' := ([(0, .ref 55), (2, .int a2), (3, .int a3), (4, .int a4)], [.int a3, .ref 50, .int a4], rf_MM w m)) (by decide +kernel) rfl trivial ?_
  obtain ⟨y0, m0, hc0, hg⟩ := rf_b_some hg
  refine rf_callv C rf_fit0 j_X7_turnsIn (ci := 7) (As := [.int a3]) (rest := [.int a4]) mw_X7_turnsIn (c_X7_turnsIn hc0) (by decide) rfl (by decide) lk_0_111 rfl rfl (Nat.le_of_ble_eq_true rfl) (by decide +kernel) ?_
  show rf_V 5 (rf_sh w) K 0 0 137 ([(0, .ref 55), (2, .int a2), (3, .int a3), (4, .int a4)], [.int y0, .int a4], rf_MM w m0)
  refine rf_icmp_ge C 33 170 (by decide +kernel) (fun hc => ?_) (fun hc => ?_)
  · replace hg := (if_pos hc).symm.trans hg
    refine rf_seg C [(.aload 0, 1), (.aload 0, 1), (.invokeinterface 0 2, 3), (.iload 3, 1), (.aload 0, 1), (.invokeinterface 0 1, 3), (.invokeinterface 3 4, 3)] (pc' := 183) (S' := ([(0, .ref 55), (2, .int a2), (3, .int a3), (4, .int a4)], [.ref 31, .int a3, .ref 50, .ref 55], rf_MM w m0)) (by decide +kernel) rfl trivial ?_
    obtain ⟨y1, m1, hc1, hg⟩ := rf_b_some hg
    refine rf_callv C rf_fit0 j_X7_roundMiss__31 (ci := 7) (As := [.int a3, .ref 31]) (rest := [.ref 55]) mw_X7_roundMiss__31 (c_X7_roundMiss__31 hc1) (by decide) rfl (by decide) lk_0_118 rfl rfl (Nat.le_of_ble_eq_true rfl) (by decide +kernel) ?_
    show rf_V 5 (rf_sh w) K 0 0 186 ([(0, .ref 55), (2, .int a2), (3, .int a3), (4, .int a4)], [.int y1, .ref 55], rf_MM w m1)
    obtain ⟨y2, m2, hc2, hg⟩ := rf_b_some hg
    refine rf_callv C rf_fit0 j_X0_take (ci := 0) (As := [.int y1]) (rest := []) mw_X0_take (c_X0_take hc2) (by decide) rfl (by decide) lk_0_104 rfl rfl (Nat.le_of_ble_eq_true rfl) (by decide +kernel) ?_
    show rf_V 5 (rf_sh w) K 0 0 189 ([(0, .ref 55), (2, .int a2), (3, .int a3), (4, .int a4)], [.int y2], rf_MM w m2)
    refine rf_if_ne C 5 194 (by decide +kernel) (fun hc => ?_) (fun hc => ?_)
    · replace hg := (if_neg hc).symm.trans hg
      refine rf_few [0, 1, 2] rfl ?_
      exact s_X0_gather_194 C hE hr105 a2 a3 m2 hg
    · replace hg := (if_pos hc).symm.trans hg
      refine rf_seg C [(.iconst 0, 1)] (pc' := 193) (S' := ([(0, .ref 55), (2, .int a2), (3, .int a3), (4, .int a4)], [.int 0], rf_MM w m2)) (by decide +kernel) rfl trivial ?_
      obtain rfl := Option.some.inj hg
      exact rf_zret C hE (by decide) (by decide +kernel)
  · replace hg := (if_neg hc).symm.trans hg
    refine rf_seg C [(.aload 0, 1), (.invokeinterface 0 3, 3), (.aload 0, 1), (.invokeinterface 0 2, 3), (.iload 3, 1), (.iload 4, 2)] (pc' := 151) (S' := ([(0, .ref 55), (2, .int a2), (3, .int a3), (4, .int a4)], [.int a4, .int a3, .ref 50, .ref 56], rf_MM w m0)) (by decide +kernel) rfl trivial ?_
    obtain ⟨y3, m3, hc3, hg⟩ := rf_b_some hg
    refine rf_callv C rf_fit0 j_X7_turnOf (ci := 7) (As := [.int a3, .int a4]) (rest := [.ref 56]) mw_X7_turnOf (c_X7_turnOf hc3) (by decide) rfl (by decide) lk_0_115 rfl rfl (Nat.le_of_ble_eq_true rfl) (by decide +kernel) ?_
    show rf_V 5 (rf_sh w) K 0 0 154 ([(0, .ref 55), (2, .int a2), (3, .int a3), (4, .int a4)], [.int y3, .ref 56], rf_MM w m3)
    obtain ⟨q4, hg⟩ := rf_g_some hg
    obtain ⟨q5, hg⟩ := rf_g_some hg
    refine rf_seg C [(.dup2, 1), (.iaload, 1), (.iconst 1, 1), (.aload 0, 1), (.invokeinterface 0 8, 3), (.ishl, 1), (.ior, 1), (.iastore, 1), (.iinc 4 1, 3)] (pc' := 167) (S' := ([(4, .int (a4 + 1)), (0, .ref 55), (2, .int a2), (3, .int a3)], [], rf_MM w (rf_i m3 56 (Int32.toNatClampNeg y3) ((m3.1 56 (Int32.toNatClampNeg y3)) ||| ((1 : Int32) <<< ((m3.1 55 8) &&& 31)))))) (by decide +kernel) rfl (by exact ⟨(rf_in_of q4), (rf_in_of q5)⟩) ?_
    refine rf_goto C (-40) 127 (by decide +kernel) ?_
    refine rf_few [1, 2, 3, 0] rfl ?_
    exact hr127 a2 a3 (a4 + 1) (rf_i m3 56 (Int32.toNatClampNeg y3) ((m3.1 56 (Int32.toNatClampNeg y3)) ||| ((1 : Int32) <<< ((m3.1 55 8) &&& 31)))) hg
theorem s_X0_gather_127 {w : rf_w} {K : rf_K} {r : Int32 × rf_m} (C : rf_Ctx 0 cX0_gather 5 3 (rf_sh w) K) (hE : rf_End (some .boolean) K (rf_sh w) 0 0 (some (.int r.1)) (rf_MM w r.2)) {rec105 : Int32 → Int32 → rf_m → Option (Int32 × rf_m)} (hr105 : ∀ (a2 : Int32) (a3 : Int32) (m : rf_m), rec105 a2 a3 m = some r → rf_V 5 (rf_sh w) K 0 0 105 ([(0, .ref 55), (2, .int a2), (3, .int a3)], [], rf_MM w m)) (n : Nat) : ∀ (a2 : Int32) (a3 : Int32) (a4 : Int32) (m : rf_m), g_X0_gather_127 w rec105 n a2 a3 a4 m = some r → rf_V 5 (rf_sh w) K 0 0 127 ([(0, .ref 55), (2, .int a2), (3, .int a3), (4, .int a4)], [], rf_MM w m) := by
  induction n with
  | zero => intro a2 a3 a4 m hg; cases hg
  | succ n ih => intro a2 a3 a4 m hg; exact s_X0_gather_127_b C hE hr105 ih a2 a3 a4 m hg
theorem s_X0_gather_105_b {w : rf_w} {K : rf_K} {r : Int32 × rf_m} (C : rf_Ctx 0 cX0_gather 5 3 (rf_sh w) K) (hE : rf_End (some .boolean) K (rf_sh w) 0 0 (some (.int r.1)) (rf_MM w r.2)) {rec105 : Int32 → Int32 → rf_m → Option (Int32 × rf_m)} (hr105 : ∀ (a2 : Int32) (a3 : Int32) (m : rf_m), rec105 a2 a3 m = some r → rf_V 5 (rf_sh w) K 0 0 105 ([(0, .ref 55), (2, .int a2), (3, .int a3)], [], rf_MM w m)) (a2 : Int32) (a3 : Int32) (m : rf_m) (hg : g_X0_gather_105_b w rec105 a2 a3 m = some r) : rf_V 5 (rf_sh w) K 0 0 105 ([(0, .ref 55), (2, .int a2), (3, .int a3)], [], rf_MM w m) := by
  unfold g_X0_gather_105_b at hg
  refine rf_seg C [(.iload 3, 1), (.aload 0, 1), (.invokeinterface 0 2, 3), (.invokeinterface 7 1, 3)] (pc' := 113) (S' := ([(0, .ref 55), (2, .int a2), (3, .int a3)], [.int (m.1 50 1), .int a3], rf_MM w m)) (by decide +kernel) rfl trivial ?_
  refine rf_icmp_ge C 87 200 (by decide +kernel) (fun hc => ?_) (fun hc => ?_)
  · replace hg := (if_pos hc).symm.trans hg
    refine rf_seg C [(.iconst 1, 1)] (pc' := 201) (S' := ([(0, .ref 55), (2, .int a2), (3, .int a3)], [.int 1], rf_MM w m)) (by decide +kernel) rfl trivial ?_
    obtain rfl := Option.some.inj hg
    exact rf_zret C hE (by decide) (by decide +kernel)
  · replace hg := (if_neg hc).symm.trans hg
    refine rf_seg C [(.iload 2, 1), (.iload 3, 1), (.iushr, 1), (.iconst 1, 1), (.iand, 1)] (pc' := 121) (S' := ([(0, .ref 55), (2, .int a2), (3, .int a3)], [.int (((Int32.toUInt32 a2 >>> (Int32.toUInt32 a3 &&& Int32.toUInt32 31)).toInt32) &&& 1)], rf_MM w m)) (by decide +kernel) rfl trivial ?_
    refine rf_if_eq C 73 194 (by decide +kernel) (fun hc => ?_) (fun hc => ?_)
    · replace hg := (if_pos hc).symm.trans hg
      refine rf_few [0, 1, 2] rfl ?_
      exact s_X0_gather_194 C hE hr105 a2 a3 m hg
    · replace hg := (if_neg hc).symm.trans hg
      refine rf_seg C [(.iconst 0, 1), (.istore 4, 2)] (pc' := 127) (S' := ([(4, .int 0), (0, .ref 55), (2, .int a2), (3, .int a3)], [], rf_MM w m)) (by decide +kernel) rfl trivial ?_
      refine rf_few [1, 2, 3, 0] rfl ?_
      exact s_X0_gather_127 C hE hr105 rf_fuel a2 a3 0 m hg
theorem s_X0_gather_105 {w : rf_w} {K : rf_K} {r : Int32 × rf_m} (C : rf_Ctx 0 cX0_gather 5 3 (rf_sh w) K) (hE : rf_End (some .boolean) K (rf_sh w) 0 0 (some (.int r.1)) (rf_MM w r.2)) (n : Nat) : ∀ (a2 : Int32) (a3 : Int32) (m : rf_m), g_X0_gather_105 w n a2 a3 m = some r → rf_V 5 (rf_sh w) K 0 0 105 ([(0, .ref 55), (2, .int a2), (3, .int a3)], [], rf_MM w m) := by
  induction n with
  | zero => intro a2 a3 m hg; cases hg
  | succ n ih => intro a2 a3 m hg; exact s_X0_gather_105_b C hE ih a2 a3 m hg
theorem s_X0_gather_97 {w : rf_w} {K : rf_K} {r : Int32 × rf_m} (C : rf_Ctx 0 cX0_gather 5 3 (rf_sh w) K) (hE : rf_End (some .boolean) K (rf_sh w) 0 0 (some (.int r.1)) (rf_MM w r.2)) {rec15 : Int32 → Int32 → Int32 → rf_m → Option (Int32 × rf_m)} (hr15 : ∀ (a1 : Int32) (a2 : Int32) (a3 : Int32) (m : rf_m), rec15 a1 a2 a3 m = some r → rf_V 5 (rf_sh w) K 0 0 15 ([(0, .ref 55), (1, .int a1), (2, .int a2), (3, .int a3)], [], rf_MM w m)) (a1 : Int32) (a2 : Int32) (a3 : Int32) (m : rf_m) (hg : g_X0_gather_97 w rec15 a1 a2 a3 m = some r) : rf_V 5 (rf_sh w) K 0 0 97 ([(0, .ref 55), (1, .int a1), (2, .int a2), (3, .int a3)], [], rf_MM w m) := by
  unfold g_X0_gather_97 at hg
  refine rf_seg C [(.iinc 3 1, 3)] (pc' := 100) (S' := ([(3, .int (a3 + 1)), (0, .ref 55), (1, .int a1), (2, .int a2)], [], rf_MM w m)) (by decide +kernel) rfl trivial ?_
  refine rf_goto C (-85) 15 (by decide +kernel) ?_
  refine rf_few [1, 2, 3, 0] rfl ?_
  exact hr15 a1 a2 (a3 + 1) m hg
theorem s_X0_gather_37_b {w : rf_w} {K : rf_K} {r : Int32 × rf_m} (C : rf_Ctx 0 cX0_gather 5 3 (rf_sh w) K) (hE : rf_End (some .boolean) K (rf_sh w) 0 0 (some (.int r.1)) (rf_MM w r.2)) {rec15 : Int32 → Int32 → Int32 → rf_m → Option (Int32 × rf_m)} {rec37 : Int32 → Int32 → Int32 → Int32 → rf_m → Option (Int32 × rf_m)} (hr15 : ∀ (a1 : Int32) (a2 : Int32) (a3 : Int32) (m : rf_m), rec15 a1 a2 a3 m = some r → rf_V 5 (rf_sh w) K 0 0 15 ([(0, .ref 55), (1, .int a1), (2, .int a2), (3, .int a3)], [], rf_MM w m)) (hr37 : ∀ (a1 : Int32) (a2 : Int32) (a3 : Int32) (a4 : Int32) (m : rf_m), rec37 a1 a2 a3 a4 m = some r → rf_V 5 (rf_sh w) K 0 0 37 ([(0, .ref 55), (1, .int a1), (2, .int a2), (3, .int a3), (4, .int a4)], [], rf_MM w m)) (a1 : Int32) (a2 : Int32) (a3 : Int32) (a4 : Int32) (m : rf_m) (hg : g_X0_gather_37_b w rec15 rec37 a1 a2 a3 a4 m = some r) : rf_V 5 (rf_sh w) K 0 0 37 ([(0, .ref 55), (1, .int a1), (2, .int a2), (3, .int a3), (4, .int a4)], [], rf_MM w m) := by
  unfold g_X0_gather_37_b at hg
  refine rf_seg C [(.iload 4, 2), (.iconst 3, 1)] (pc' := 40) (S' := ([(0, .ref 55), (1, .int a1), (2, .int a2), (3, .int a3), (4, .int a4)], [.int 3, .int a4], rf_MM w m)) (by decide +kernel) rfl trivial ?_
  refine rf_icmp_ge C 33 73 (by decide +kernel) (fun hc => ?_) (fun hc => ?_)
  · replace hg := (if_pos hc).symm.trans hg
    refine rf_seg C [(.aload 0, 1), (.aload 0, 1), (.invokeinterface 0 2, 3), (.iload 3, 1), (.aload 0, 1), (.invokeinterface 0 1, 3), (.invokeinterface 3 4, 3)] (pc' := 86) (S' := ([(0, .ref 55), (1, .int a1), (2, .int a2), (3, .int a3), (4, .int a4)], [.ref 31, .int a3, .ref 50, .ref 55], rf_MM w m)) (by decide +kernel) rfl trivial ?_
    obtain ⟨y0, m0, hc0, hg⟩ := rf_b_some hg
    refine rf_callv C rf_fit0 j_X7_triangleMiss__31 (ci := 7) (As := [.int a3, .ref 31]) (rest := [.ref 55]) mw_X7_triangleMiss__31 (c_X7_triangleMiss__31 hc0) (by decide) rfl (by decide) lk_0_100 rfl rfl (Nat.le_of_ble_eq_true rfl) (by decide +kernel) ?_
    show rf_V 5 (rf_sh w) K 0 0 89 ([(0, .ref 55), (1, .int a1), (2, .int a2), (3, .int a3), (4, .int a4)], [.int y0, .ref 55], rf_MM w m0)
    obtain ⟨y1, m1, hc1, hg⟩ := rf_b_some hg
    refine rf_callv C rf_fit0 j_X0_take (ci := 0) (As := [.int y0]) (rest := []) mw_X0_take (c_X0_take hc1) (by decide) rfl (by decide) lk_0_104 rfl rfl (Nat.le_of_ble_eq_true rfl) (by decide +kernel) ?_
    show rf_V 5 (rf_sh w) K 0 0 92 ([(0, .ref 55), (1, .int a1), (2, .int a2), (3, .int a3), (4, .int a4)], [.int y1], rf_MM w m1)
    refine rf_if_ne C 5 97 (by decide +kernel) (fun hc => ?_) (fun hc => ?_)
    · replace hg := (if_neg hc).symm.trans hg
      refine rf_few [0, 1, 2, 3] rfl ?_
      exact s_X0_gather_97 C hE hr15 a1 a2 a3 m1 hg
    · replace hg := (if_pos hc).symm.trans hg
      refine rf_seg C [(.iconst 0, 1)] (pc' := 96) (S' := ([(0, .ref 55), (1, .int a1), (2, .int a2), (3, .int a3), (4, .int a4)], [.int 0], rf_MM w m1)) (by decide +kernel) rfl trivial ?_
      obtain rfl := Option.some.inj hg
      exact rf_zret C hE (by decide) (by decide +kernel)
  · replace hg := (if_neg hc).symm.trans hg
    refine rf_seg C [(.aload 0, 1), (.invokeinterface 0 3, 3), (.aload 0, 1), (.invokeinterface 0 2, 3), (.iload 3, 1), (.iload 4, 2)] (pc' := 54) (S' := ([(0, .ref 55), (1, .int a1), (2, .int a2), (3, .int a3), (4, .int a4)], [.int a4, .int a3, .ref 50, .ref 56], rf_MM w m)) (by decide +kernel) rfl trivial ?_
    obtain ⟨y2, m2, hc2, hg⟩ := rf_b_some hg
    refine rf_callv C rf_fit0 j_X7_cornerOf (ci := 7) (As := [.int a3, .int a4]) (rest := [.ref 56]) mw_X7_cornerOf (c_X7_cornerOf hc2) (by decide) rfl (by decide) lk_0_91 rfl rfl (Nat.le_of_ble_eq_true rfl) (by decide +kernel) ?_
    show rf_V 5 (rf_sh w) K 0 0 57 ([(0, .ref 55), (1, .int a1), (2, .int a2), (3, .int a3), (4, .int a4)], [.int y2, .ref 56], rf_MM w m2)
    obtain ⟨q3, hg⟩ := rf_g_some hg
    obtain ⟨q4, hg⟩ := rf_g_some hg
    refine rf_seg C [(.dup2, 1), (.iaload, 1), (.iconst 1, 1), (.aload 0, 1), (.invokeinterface 0 8, 3), (.ishl, 1), (.ior, 1), (.iastore, 1), (.iinc 4 1, 3)] (pc' := 70) (S' := ([(4, .int (a4 + 1)), (0, .ref 55), (1, .int a1), (2, .int a2), (3, .int a3)], [], rf_MM w (rf_i m2 56 (Int32.toNatClampNeg y2) ((m2.1 56 (Int32.toNatClampNeg y2)) ||| ((1 : Int32) <<< ((m2.1 55 8) &&& 31)))))) (by decide +kernel) rfl (by exact ⟨(rf_in_of q3), (rf_in_of q4)⟩) ?_
    refine rf_goto C (-33) 37 (by decide +kernel) ?_
    refine rf_few [1, 2, 3, 4, 0] rfl ?_
    exact hr37 a1 a2 a3 (a4 + 1) (rf_i m2 56 (Int32.toNatClampNeg y2) ((m2.1 56 (Int32.toNatClampNeg y2)) ||| ((1 : Int32) <<< ((m2.1 55 8) &&& 31)))) hg
theorem s_X0_gather_37 {w : rf_w} {K : rf_K} {r : Int32 × rf_m} (C : rf_Ctx 0 cX0_gather 5 3 (rf_sh w) K) (hE : rf_End (some .boolean) K (rf_sh w) 0 0 (some (.int r.1)) (rf_MM w r.2)) {rec15 : Int32 → Int32 → Int32 → rf_m → Option (Int32 × rf_m)} (hr15 : ∀ (a1 : Int32) (a2 : Int32) (a3 : Int32) (m : rf_m), rec15 a1 a2 a3 m = some r → rf_V 5 (rf_sh w) K 0 0 15 ([(0, .ref 55), (1, .int a1), (2, .int a2), (3, .int a3)], [], rf_MM w m)) (n : Nat) : ∀ (a1 : Int32) (a2 : Int32) (a3 : Int32) (a4 : Int32) (m : rf_m), g_X0_gather_37 w rec15 n a1 a2 a3 a4 m = some r → rf_V 5 (rf_sh w) K 0 0 37 ([(0, .ref 55), (1, .int a1), (2, .int a2), (3, .int a3), (4, .int a4)], [], rf_MM w m) := by
  induction n with
  | zero => intro a1 a2 a3 a4 m hg; cases hg
  | succ n ih => intro a1 a2 a3 a4 m hg; exact s_X0_gather_37_b C hE hr15 ih a1 a2 a3 a4 m hg
theorem s_X0_gather_15_b {w : rf_w} {K : rf_K} {r : Int32 × rf_m} (C : rf_Ctx 0 cX0_gather 5 3 (rf_sh w) K) (hE : rf_End (some .boolean) K (rf_sh w) 0 0 (some (.int r.1)) (rf_MM w r.2)) {rec15 : Int32 → Int32 → Int32 → rf_m → Option (Int32 × rf_m)} (hr15 : ∀ (a1 : Int32) (a2 : Int32) (a3 : Int32) (m : rf_m), rec15 a1 a2 a3 m = some r → rf_V 5 (rf_sh w) K 0 0 15 ([(0, .ref 55), (1, .int a1), (2, .int a2), (3, .int a3)], [], rf_MM w m)) (a1 : Int32) (a2 : Int32) (a3 : Int32) (m : rf_m) (hg : g_X0_gather_15_b w rec15 a1 a2 a3 m = some r) : rf_V 5 (rf_sh w) K 0 0 15 ([(0, .ref 55), (1, .int a1), (2, .int a2), (3, .int a3)], [], rf_MM w m) := by
  unfold g_X0_gather_15_b at hg
  refine rf_seg C [(.iload 3, 1), (.aload 0, 1), (.invokeinterface 0 2, 3), (.invokeinterface 7 0, 3)] (pc' := 23) (S' := ([(0, .ref 55), (1, .int a1), (2, .int a2), (3, .int a3)], [.int (m.1 50 0), .int a3], rf_MM w m)) (by decide +kernel) rfl trivial ?_
  refine rf_icmp_ge C 80 103 (by decide +kernel) (fun hc => ?_) (fun hc => ?_)
  · replace hg := (if_pos hc).symm.trans hg
    refine rf_seg C [(.iconst 0, 1), (.istore 3, 1)] (pc' := 105) (S' := ([(3, .int 0), (0, .ref 55), (1, .int a1), (2, .int a2)], [], rf_MM w m)) (by decide +kernel) rfl trivial ?_
    refine rf_few [1, 3, 0] rfl ?_
    exact s_X0_gather_105 C hE rf_fuel a2 0 m hg
  · replace hg := (if_neg hc).symm.trans hg
    refine rf_seg C [(.iload 1, 1), (.iload 3, 1), (.iushr, 1), (.iconst 1, 1), (.iand, 1)] (pc' := 31) (S' := ([(0, .ref 55), (1, .int a1), (2, .int a2), (3, .int a3)], [.int (((Int32.toUInt32 a1 >>> (Int32.toUInt32 a3 &&& Int32.toUInt32 31)).toInt32) &&& 1)], rf_MM w m)) (by decide +kernel) rfl trivial ?_
    refine rf_if_eq C 66 97 (by decide +kernel) (fun hc => ?_) (fun hc => ?_)
    · replace hg := (if_pos hc).symm.trans hg
      refine rf_few [0, 1, 2, 3] rfl ?_
      exact s_X0_gather_97 C hE hr15 a1 a2 a3 m hg
    · replace hg := (if_neg hc).symm.trans hg
      refine rf_seg C [(.iconst 0, 1), (.istore 4, 2)] (pc' := 37) (S' := ([(4, .int 0), (0, .ref 55), (1, .int a1), (2, .int a2), (3, .int a3)], [], rf_MM w m)) (by decide +kernel) rfl trivial ?_
      refine rf_few [1, 2, 3, 4, 0] rfl ?_
      exact s_X0_gather_37 C hE hr15 rf_fuel a1 a2 a3 0 m hg
theorem s_X0_gather_15 {w : rf_w} {K : rf_K} {r : Int32 × rf_m} (C : rf_Ctx 0 cX0_gather 5 3 (rf_sh w) K) (hE : rf_End (some .boolean) K (rf_sh w) 0 0 (some (.int r.1)) (rf_MM w r.2)) (n : Nat) : ∀ (a1 : Int32) (a2 : Int32) (a3 : Int32) (m : rf_m), g_X0_gather_15 w n a1 a2 a3 m = some r → rf_V 5 (rf_sh w) K 0 0 15 ([(0, .ref 55), (1, .int a1), (2, .int a2), (3, .int a3)], [], rf_MM w m) := by
  induction n with
  | zero => intro a1 a2 a3 m hg; cases hg
  | succ n ih => intro a1 a2 a3 m hg; exact s_X0_gather_15_b C hE ih a1 a2 a3 m hg
theorem c_X0_gather {w : rf_w} {m : rf_m} {a1 : Int32} {a2 : Int32} {r : Int32 × rf_m} (hg : g_X0_gather w m a1 a2 = some r) : rf_Con j_X0_gather 3 (rf_sh w) [.ref 55, .int a1, .int a2] (rf_MM w m) (some (.int r.1)) (rf_MM w r.2) := by
  refine rf_con j_X0_gather 3 ⟨by decide +kernel, rfl, Nat.le_of_ble_eq_true rfl⟩ (fun K C hE => ?_)
  unfold g_X0_gather at hg
  show rf_V 5 (rf_sh w) K 0 0 0 ([(0, .ref 55), (1, .int a1), (2, .int a2)], [], rf_MM w m)
  refine rf_seg C [(.aload 0, 1), (.invokeinterface 0 3, 3), (.iconst 0, 1)] (pc' := 5) (S' := ([(0, .ref 55), (1, .int a1), (2, .int a2)], [.int 0, .ref 56], rf_MM w m)) (by decide +kernel) rfl trivial ?_
  obtain ⟨m0, hc0, hg⟩ := rf_bv_some hg
  refine rf_calls C rf_fit0 j_J7_fill_53178__56 (As := [.ref 56, .int 0]) (rest := []) mw_J7_fill_53178__56 (c_J7_fill_53178__56 hc0) (by decide) lk_0_76 rfl rfl (Nat.le_of_ble_eq_true rfl) (by decide +kernel) ?_
  show rf_V 5 (rf_sh w) K 0 0 8 ([(0, .ref 55), (1, .int a1), (2, .int a2)], [], rf_MM w m0)
  refine rf_seg C [(.aload 0, 1), (.iconst 0, 1), (.multianewarray 0 8, 3), (.iconst 0, 1), (.istore 3, 1)] (pc' := 15) (S' := ([(3, .int 0), (0, .ref 55), (1, .int a1), (2, .int a2)], [], rf_MM w (rf_i m0 55 8 0))) (by decide +kernel) rfl trivial ?_
  refine rf_few [1, 2, 3, 0] rfl ?_
  exact s_X0_gather_15 C hE rf_fuel a1 a2 0 (rf_i m0 55 8 0) hg
-- J7_fill_53178__18
abbrev j_J7_fill_53178__18 : rf_J := (30, yJ7_fill_53178, cJ7_fill_53178, 4, none)
theorem mw_J7_fill_53178__18 : rf_ms j_J7_fill_53178__18 2 := ⟨⟨rf_mem 26 (by decide +kernel), rf_mem 26 (by decide +kernel), rf_mem 26 (by decide +kernel)⟩, by decide +kernel, by decide⟩
def g_J7_fill_53178__18_5_b (w : rf_w) (rec5 : Int32 → Int32 → Int32 → rf_m → Option (rf_m)) (a1 : Int32) (a2 : Int32) (a3 : Int32) (m : rf_m) : Option (rf_m) := (if a3 ≤ a2 then some m else rf_g (rf_in a2 7) (rec5 a1 (a2 + 1) a3 (rf_i m 18 (Int32.toNatClampNeg a2) a1)))
def g_J7_fill_53178__18_5 (w : rf_w) : Nat → Int32 → Int32 → Int32 → rf_m → Option (rf_m)
  | 0, _, _, _, _ => none
  | n + 1, a1, a2, a3, m => g_J7_fill_53178__18_5_b w (g_J7_fill_53178__18_5 w n) a1 a2 a3 m
def g_J7_fill_53178__18 (w : rf_w) (m : rf_m) (a1 : Int32) : Option (rf_m) := g_J7_fill_53178__18_5 w rf_fuel a1 0 7 m
theorem s_J7_fill_53178__18_5_b {w : rf_w} {K : rf_K} {r : rf_m} (C : rf_Ctx 30 cJ7_fill_53178 4 1 (rf_sh w) K) (hE : rf_End none K (rf_sh w) 0 0 none (rf_MM w r)) {rec5 : Int32 → Int32 → Int32 → rf_m → Option (rf_m)} (hr5 : ∀ (a1 : Int32) (a2 : Int32) (a3 : Int32) (m : rf_m), rec5 a1 a2 a3 m = some r → rf_V 4 (rf_sh w) K 0 0 5 ([(0, .ref 18), (1, .int a1), (2, .int a2), (3, .int a3)], [], rf_MM w m)) (a1 : Int32) (a2 : Int32) (a3 : Int32) (m : rf_m) (hg : g_J7_fill_53178__18_5_b w rec5 a1 a2 a3 m = some r) : rf_V 4 (rf_sh w) K 0 0 5 ([(0, .ref 18), (1, .int a1), (2, .int a2), (3, .int a3)], [], rf_MM w m) := by
  unfold g_J7_fill_53178__18_5_b at hg
  refine rf_seg C [(.iload 2, 1), (.iload 3, 1)] (pc' := 7) (S' := ([(0, .ref 18), (1, .int a1), (2, .int a2), (3, .int a3)], [.int a3, .int a2], rf_MM w m)) (by decide +kernel) rfl trivial ?_
  refine rf_icmp_ge C 13 20 (by decide +kernel) (fun hc => ?_) (fun hc => ?_)
  · replace hg := (if_pos hc).symm.trans hg
    obtain rfl := Option.some.inj hg
    exact rf_vret C hE (by decide +kernel)
  · replace hg := (if_neg hc).symm.trans hg
    obtain ⟨q0, hg⟩ := rf_g_some hg
    refine rf_seg C [(.aload 0, 1), (.iload 2, 1), (.iload 1, 1), (.iastore, 1), (.iinc 2 1, 3)] (pc' := 17) (S' := ([(2, .int (a2 + 1)), (0, .ref 18), (1, .int a1), (3, .int a3)], [], rf_MM w (rf_i m 18 (Int32.toNatClampNeg a2) a1))) (by decide +kernel) rfl (rf_in_of q0) ?_
    refine rf_goto C (-12) 5 (by decide +kernel) ?_
    refine rf_few [1, 2, 0, 3] rfl ?_
    exact hr5 a1 (a2 + 1) a3 (rf_i m 18 (Int32.toNatClampNeg a2) a1) hg
theorem s_J7_fill_53178__18_5 {w : rf_w} {K : rf_K} {r : rf_m} (C : rf_Ctx 30 cJ7_fill_53178 4 1 (rf_sh w) K) (hE : rf_End none K (rf_sh w) 0 0 none (rf_MM w r)) (n : Nat) : ∀ (a1 : Int32) (a2 : Int32) (a3 : Int32) (m : rf_m), g_J7_fill_53178__18_5 w n a1 a2 a3 m = some r → rf_V 4 (rf_sh w) K 0 0 5 ([(0, .ref 18), (1, .int a1), (2, .int a2), (3, .int a3)], [], rf_MM w m) := by
  induction n with
  | zero => intro a1 a2 a3 m hg; cases hg
  | succ n ih => intro a1 a2 a3 m hg; exact s_J7_fill_53178__18_5_b C hE ih a1 a2 a3 m hg
theorem c_J7_fill_53178__18 {w : rf_w} {m : rf_m} {a1 : Int32} {r : rf_m} (hg : g_J7_fill_53178__18 w m a1 = some r) : rf_Con j_J7_fill_53178__18 1 (rf_sh w) [.ref 18, .int a1] (rf_MM w m) none (rf_MM w r) := by
  refine rf_con j_J7_fill_53178__18 1 ⟨by decide +kernel, rfl, Nat.le_of_ble_eq_true rfl⟩ (fun K C hE => ?_)
  unfold g_J7_fill_53178__18 at hg
  show rf_V 4 (rf_sh w) K 0 0 0 ([(0, .ref 18), (1, .int a1)], [], rf_MM w m)
  refine rf_seg C [(.iconst 0, 1), (.istore 2, 1), (.aload 0, 1), (.arraylength, 1), (.istore 3, 1)] (pc' := 5) (S' := ([(3, .int 7), (2, .int 0), (0, .ref 18), (1, .int a1)], [], rf_MM w m)) (by decide +kernel) rfl trivial ?_
  refine rf_few [2, 3, 1, 0] rfl ?_
  exact s_J7_fill_53178__18_5 C hE rf_fuel a1 0 7 m hg
-- X9_clearFacts
abbrev j_X9_clearFacts : rf_J := (9, yX9_clearFacts, cX9_clearFacts, 1, none)
theorem mw_X9_clearFacts : rf_mv j_X9_clearFacts (rf_R 9) 0 := ⟨⟨rf_mem 26 (by decide +kernel), rf_mem 26 (by decide +kernel), rf_mem 0 (by decide +kernel), rf_mem 26 (by decide +kernel)⟩, by decide +kernel, by decide⟩
def g_X9_clearFacts (w : rf_w) (m : rf_m) : Option (rf_m) := rf_bv (g_J7_fill_53178__18 w m 0) fun m0 => some m0
theorem c_X9_clearFacts {w : rf_w} {m : rf_m} {r : rf_m} (hg : g_X9_clearFacts w m = some r) : rf_Con j_X9_clearFacts 2 (rf_sh w) [.ref 13] (rf_MM w m) none (rf_MM w r) := by
  refine rf_con j_X9_clearFacts 2 ⟨by decide +kernel, rfl, Nat.le_of_ble_eq_true rfl⟩ (fun K C hE => ?_)
  unfold g_X9_clearFacts at hg
  show rf_V 1 (rf_sh w) K 0 0 0 ([(0, .ref 13)], [], rf_MM w m)
  refine rf_seg C [(.aload 0, 1), (.invokeinterface 9 1, 3), (.iconst 0, 1)] (pc' := 5) (S' := ([(0, .ref 13)], [.int 0, .ref 18], rf_MM w m)) (by decide +kernel) rfl trivial ?_
  obtain ⟨m0, hc0, hg⟩ := rf_bv_some hg
  refine rf_calls C rf_fit0 j_J7_fill_53178__18 (As := [.ref 18, .int 0]) (rest := []) mw_J7_fill_53178__18 (c_J7_fill_53178__18 hc0) (by decide) lk_9_75 rfl rfl (Nat.le_of_ble_eq_true rfl) (by decide +kernel) ?_
  show rf_V 1 (rf_sh w) K 0 0 8 ([(0, .ref 13)], [], rf_MM w m0)
  obtain rfl := Option.some.inj hg
  exact rf_vret C hE (by decide +kernel)
-- max
abbrev j_max : rf_J := (22, Lib.Math.max.name, Lib.Math.max.code, 2, (some .int))
theorem mw_max : rf_ms j_max 2 := ⟨⟨rf_mem 19 (by decide +kernel), rf_mem 20 (by decide +kernel), rf_mem 19 (by decide +kernel)⟩, by decide +kernel, by decide⟩
def g_max (w : rf_w) (m : rf_m) (a0 : Int32) (a1 : Int32) : Option (Int32 × rf_m) := (if a0 < a1 then some (a1, m) else some (a0, m))
theorem c_max {w : rf_w} {m : rf_m} {a0 : Int32} {a1 : Int32} {r : Int32 × rf_m} (hg : g_max w m a0 a1 = some r) : rf_Con j_max 1 (rf_sh w) [.int a0, .int a1] (rf_MM w m) (some (.int r.1)) (rf_MM w r.2) := by
  refine rf_con j_max 1 ⟨by decide +kernel, rfl, Nat.le_of_ble_eq_true rfl⟩ (fun K C hE => ?_)
  unfold g_max at hg
  show rf_V 2 (rf_sh w) K 0 0 0 ([(0, .int a0), (1, .int a1)], [], rf_MM w m)
  refine rf_seg C [(.iload 0, 1), (.iload 1, 1)] (pc' := 2) (S' := ([(0, .int a0), (1, .int a1)], [.int a1, .int a0], rf_MM w m)) (by decide +kernel) rfl trivial ?_
  refine rf_icmp_lt C 7 9 (by decide +kernel) (fun hc => ?_) (fun hc => ?_)
  · replace hg := (if_pos hc).symm.trans hg
    refine rf_seg C [(.iload 1, 1)] (pc' := 10) (S' := ([(0, .int a0), (1, .int a1)], [.int a1], rf_MM w m)) (by decide +kernel) rfl trivial ?_
    obtain rfl := Option.some.inj hg
    exact rf_iret C hE (by decide +kernel)
  · replace hg := (if_neg hc).symm.trans hg
    refine rf_seg C [(.iload 0, 1)] (pc' := 6) (S' := ([(0, .int a0), (1, .int a1)], [.int a0], rf_MM w m)) (by decide +kernel) rfl trivial ?_
    refine rf_goto C 4 10 (by decide +kernel) ?_
    obtain rfl := Option.some.inj hg
    exact rf_iret C hE (by decide +kernel)
-- X3_layOut
abbrev j_X3_layOut : rf_J := (3, yX3_layOut, cX3_layOut, 2, none)
theorem mw_X3_layOut : rf_mv j_X3_layOut (rf_R 3) 1 := ⟨⟨rf_mem 31 (by decide +kernel), rf_mem 31 (by decide +kernel), rf_mem 0 (by decide +kernel), rf_mem 31 (by decide +kernel)⟩, by decide +kernel, by decide⟩
def g_X3_layOut (w : rf_w) (m : rf_m) (a1 : Int32) : Option (rf_m) := rf_bv (g_X9_clearFacts w m) fun m0 => rf_g (rf_in ((a1 * 9) + 5) 720) (rf_g (rf_in ((a1 * 9) + 1) 720) (rf_b (g_max w (rf_i m0 18 (Int32.toNatClampNeg 3) (m0.1 34 (Int32.toNatClampNeg ((a1 * 9) + 5)))) 0 ((rf_i m0 18 (Int32.toNatClampNeg 3) (m0.1 34 (Int32.toNatClampNeg ((a1 * 9) + 5)))).1 34 (Int32.toNatClampNeg ((a1 * 9) + 1)))) fun y3 m3 => rf_g (rf_in ((a1 * 9) + 4) 720) (rf_g (rf_in a1 80) (some (rf_i (rf_i (rf_i m3 18 (Int32.toNatClampNeg 4) y3) 18 (Int32.toNatClampNeg 5) ((rf_i m3 18 (Int32.toNatClampNeg 4) y3).1 34 (Int32.toNatClampNeg ((a1 * 9) + 4)))) 18 (Int32.toNatClampNeg 6) ((rf_i (rf_i m3 18 (Int32.toNatClampNeg 4) y3) 18 (Int32.toNatClampNeg 5) ((rf_i m3 18 (Int32.toNatClampNeg 4) y3).1 34 (Int32.toNatClampNeg ((a1 * 9) + 4)))).1 28 (Int32.toNatClampNeg a1)))))))
theorem c_X3_layOut {w : rf_w} {m : rf_m} {a1 : Int32} {r : rf_m} (hg : g_X3_layOut w m a1 = some r) : rf_Con j_X3_layOut 3 (rf_sh w) [.ref 26, .int a1] (rf_MM w m) none (rf_MM w r) := by
  refine rf_con j_X3_layOut 3 ⟨by decide +kernel, rfl, Nat.le_of_ble_eq_true rfl⟩ (fun K C hE => ?_)
  unfold g_X3_layOut at hg
  show rf_V 2 (rf_sh w) K 0 0 0 ([(0, .ref 26), (1, .int a1)], [], rf_MM w m)
  refine rf_seg C [(.aload 0, 1), (.invokeinterface 3 8, 3)] (pc' := 4) (S' := ([(0, .ref 26), (1, .int a1)], [.ref 13], rf_MM w m)) (by decide +kernel) rfl trivial ?_
  obtain ⟨m0, hc0, hg⟩ := rf_bv_some hg
  refine rf_callv C rf_fit0 j_X9_clearFacts (ci := 9) (As := []) (rest := []) mw_X9_clearFacts (c_X9_clearFacts hc0) (by decide) rfl (by decide) lk_3_91 rfl rfl (Nat.le_of_ble_eq_true rfl) (by decide +kernel) ?_
  show rf_V 2 (rf_sh w) K 0 0 7 ([(0, .ref 26), (1, .int a1)], [], rf_MM w m0)
  obtain ⟨q1, hg⟩ := rf_g_some hg
  obtain ⟨q2, hg⟩ := rf_g_some hg
  refine rf_seg C [(.aload 0, 1), (.invokeinterface 3 8, 3), (.invokeinterface 9 1, 3), (.iconst 3, 1), (.aload 0, 1), (.invokeinterface 3 11, 3), (.iload 1, 1), (.iconst 9, 2), (.imul, 1), (.iconst 5, 1), (.iadd, 1), (.iaload, 1), (.iastore, 1), (.aload 0, 1), (.invokeinterface 3 8, 3), (.invokeinterface 9 1, 3), (.iconst 4, 1), (.iconst 0, 1), (.aload 0, 1), (.invokeinterface 3 11, 3), (.iload 1, 1), (.iconst 9, 2), (.imul, 1), (.iconst 1, 1), (.iadd, 1), (.iaload, 1)] (pc' := 47) (S' := ([(0, .ref 26), (1, .int a1)], [.int ((rf_i m0 18 (Int32.toNatClampNeg 3) (m0.1 34 (Int32.toNatClampNeg ((a1 * 9) + 5)))).1 34 (Int32.toNatClampNeg ((a1 * 9) + 1))), .int 0, .int 4, .ref 18], rf_MM w (rf_i m0 18 (Int32.toNatClampNeg 3) (m0.1 34 (Int32.toNatClampNeg ((a1 * 9) + 5)))))) (by decide +kernel) rfl (by exact ⟨(rf_in_of q1), (rf_in_of (by decide)), (rf_in_of q2)⟩) ?_
  obtain ⟨y3, m3, hc3, hg⟩ := rf_b_some hg
  refine rf_calls C rf_fit0 j_max (As := [.int 0, .int ((rf_i m0 18 (Int32.toNatClampNeg 3) (m0.1 34 (Int32.toNatClampNeg ((a1 * 9) + 5)))).1 34 (Int32.toNatClampNeg ((a1 * 9) + 1)))]) (rest := [.int 4, .ref 18]) mw_max (c_max hc3) (by decide) lk_3_107 rfl rfl (Nat.le_of_ble_eq_true rfl) (by decide +kernel) ?_
  show rf_V 2 (rf_sh w) K 0 0 50 ([(0, .ref 26), (1, .int a1)], [.int y3, .int 4, .ref 18], rf_MM w m3)
  obtain ⟨q4, hg⟩ := rf_g_some hg
  obtain ⟨q5, hg⟩ := rf_g_some hg
  refine rf_seg C [(.iastore, 1), (.aload 0, 1), (.invokeinterface 3 8, 3), (.invokeinterface 9 1, 3), (.iconst 5, 1), (.aload 0, 1), (.invokeinterface 3 11, 3), (.iload 1, 1), (.iconst 9, 2), (.imul, 1), (.iconst 4, 1), (.iadd, 1), (.iaload, 1), (.iastore, 1), (.aload 0, 1), (.invokeinterface 3 8, 3), (.invokeinterface 9 1, 3), (.iconst 6, 2), (.aload 0, 1), (.invokeinterface 3 1, 3), (.iload 1, 1), (.iaload, 1), (.iastore, 1)] (pc' := 87) (S' := ([(0, .ref 26), (1, .int a1)], [], rf_MM w (rf_i (rf_i (rf_i m3 18 (Int32.toNatClampNeg 4) y3) 18 (Int32.toNatClampNeg 5) ((rf_i m3 18 (Int32.toNatClampNeg 4) y3).1 34 (Int32.toNatClampNeg ((a1 * 9) + 4)))) 18 (Int32.toNatClampNeg 6) ((rf_i (rf_i m3 18 (Int32.toNatClampNeg 4) y3) 18 (Int32.toNatClampNeg 5) ((rf_i m3 18 (Int32.toNatClampNeg 4) y3).1 34 (Int32.toNatClampNeg ((a1 * 9) + 4)))).1 28 (Int32.toNatClampNeg a1))))) (by decide +kernel) rfl (by exact ⟨(rf_in_of (by decide)), (rf_in_of q4), (rf_in_of (by decide)), (rf_in_of q5), (rf_in_of (by decide))⟩) ?_
  obtain rfl := Option.some.inj hg
  exact rf_vret C hE (by decide +kernel)
-- X9_isDue
abbrev j_X9_isDue : rf_J := (9, yX9_isDue, cX9_isDue, 4, (some .boolean))
theorem mw_X9_isDue : rf_mv j_X9_isDue (rf_R 9) 3 := ⟨⟨rf_mem 27 (by decide +kernel), rf_mem 27 (by decide +kernel), rf_mem 0 (by decide +kernel), rf_mem 27 (by decide +kernel)⟩, by decide +kernel, by decide⟩
def g_X9_isDue (w : rf_w) (m : rf_m) (a1 : Int32) (a2 : Int32) (a3 : Int32) : Option (Int32 × rf_m) := rf_g (rf_in a1 24) ((if (m.1 19 (Int32.toNatClampNeg a1)) = a2 then rf_g (rf_in a1 24) ((if a3 < (m.1 20 (Int32.toNatClampNeg a1)) then some (0, m) else rf_g (rf_in a1 24) ((if (m.1 21 (Int32.toNatClampNeg a1)) < a3 then some (0, m) else some (1, m))))) else some (0, m)))
theorem c_X9_isDue {w : rf_w} {m : rf_m} {a1 : Int32} {a2 : Int32} {a3 : Int32} {r : Int32 × rf_m} (hg : g_X9_isDue w m a1 a2 a3 = some r) : rf_Con j_X9_isDue 1 (rf_sh w) [.ref 13, .int a1, .int a2, .int a3] (rf_MM w m) (some (.int r.1)) (rf_MM w r.2) := by
  refine rf_con j_X9_isDue 1 ⟨by decide +kernel, rfl, Nat.le_of_ble_eq_true rfl⟩ (fun K C hE => ?_)
  unfold g_X9_isDue at hg
  show rf_V 4 (rf_sh w) K 0 0 0 ([(0, .ref 13), (1, .int a1), (2, .int a2), (3, .int a3)], [], rf_MM w m)
  obtain ⟨q0, hg⟩ := rf_g_some hg
  refine rf_seg C [(.aload 0, 1), (.invokeinterface 9 4, 3), (.iload 1, 1), (.iaload, 1), (.iload 2, 1)] (pc' := 7) (S' := ([(0, .ref 13), (1, .int a1), (2, .int a2), (3, .int a3)], [.int a2, .int (m.1 19 (Int32.toNatClampNeg a1))], rf_MM w m)) (by decide +kernel) rfl (rf_in_of q0) ?_
  refine rf_icmp_ne C 27 34 (by decide +kernel) (fun hc => ?_) (fun hc => ?_)
  · replace hg := (if_neg hc).symm.trans hg
    refine rf_seg C [(.iconst 0, 1)] (pc' := 35) (S' := ([(0, .ref 13), (1, .int a1), (2, .int a2), (3, .int a3)], [.int 0], rf_MM w m)) (by decide +kernel) rfl trivial ?_
    obtain rfl := Option.some.inj hg
    exact rf_zret C hE (by decide) (by decide +kernel)
  · replace hg := (if_pos hc).symm.trans hg
    obtain ⟨q1, hg⟩ := rf_g_some hg
    refine rf_seg C [(.aload 0, 1), (.invokeinterface 9 5, 3), (.iload 1, 1), (.iaload, 1), (.iload 3, 1)] (pc' := 17) (S' := ([(0, .ref 13), (1, .int a1), (2, .int a2), (3, .int a3)], [.int a3, .int (m.1 20 (Int32.toNatClampNeg a1))], rf_MM w m)) (by decide +kernel) rfl (rf_in_of q1) ?_
    refine rf_icmp_gt C 17 34 (by decide +kernel) (fun hc => ?_) (fun hc => ?_)
    · replace hg := (if_pos hc).symm.trans hg
      refine rf_seg C [(.iconst 0, 1)] (pc' := 35) (S' := ([(0, .ref 13), (1, .int a1), (2, .int a2), (3, .int a3)], [.int 0], rf_MM w m)) (by decide +kernel) rfl trivial ?_
      obtain rfl := Option.some.inj hg
      exact rf_zret C hE (by decide) (by decide +kernel)
    · replace hg := (if_neg hc).symm.trans hg
      obtain ⟨q2, hg⟩ := rf_g_some hg
      refine rf_seg C [(.iload 3, 1), (.aload 0, 1), (.invokeinterface 9 6, 3), (.iload 1, 1), (.iaload, 1)] (pc' := 27) (S' := ([(0, .ref 13), (1, .int a1), (2, .int a2), (3, .int a3)], [.int (m.1 21 (Int32.toNatClampNeg a1)), .int a3], rf_MM w m)) (by decide +kernel) rfl (rf_in_of q2) ?_
      refine rf_icmp_gt C 7 34 (by decide +kernel) (fun hc => ?_) (fun hc => ?_)
      · replace hg := (if_pos hc).symm.trans hg
        refine rf_seg C [(.iconst 0, 1)] (pc' := 35) (S' := ([(0, .ref 13), (1, .int a1), (2, .int a2), (3, .int a3)], [.int 0], rf_MM w m)) (by decide +kernel) rfl trivial ?_
        obtain rfl := Option.some.inj hg
        exact rf_zret C hE (by decide) (by decide +kernel)
      · replace hg := (if_neg hc).symm.trans hg
        refine rf_seg C [(.iconst 1, 1)] (pc' := 31) (S' := ([(0, .ref 13), (1, .int a1), (2, .int a2), (3, .int a3)], [.int 1], rf_MM w m)) (by decide +kernel) rfl trivial ?_
        refine rf_goto C 4 35 (by decide +kernel) ?_
        obtain rfl := Option.some.inj hg
        exact rf_zret C hE (by decide) (by decide +kernel)
-- X9_joined
abbrev j_X9_joined : rf_J := (9, yX9_joined, cX9_joined, 7, (some .long))
theorem mw_X9_joined : rf_ms j_X9_joined 3 := ⟨⟨rf_mem 28 (by decide +kernel), rf_mem 0 (by decide +kernel), rf_mem 28 (by decide +kernel)⟩, by decide +kernel, by decide⟩
def g_X9_joined_116 (w : rf_w) (a5 : Int64) (m : rf_m) : Option (Int64 × rf_m) := (if (lg_cmp a5 1000000000) ≤ 0 then (if (0 : Int32) ≤ (lg_cmp a5 ((-1000000000))) then some (a5, m) else some ((-1000000000), m)) else some (1000000000, m))
def g_X9_joined (w : rf_w) (m : rf_m) (a0 : Int32) (a1 : Int64) (a3 : Int64) : Option (Int64 × rf_m) := (if a0 = (-18) then some (a1 &&& a3, m) else if a0 = (-17) then some (a1 ||| a3, m) else if a0 = (-16) then (if (lg_cmp a1 a3) = 0 then some (1, m) else some (0, m)) else if a0 = (-15) then (if (lg_cmp a1 a3) ≤ 0 then some (0, m) else some (1, m)) else if a0 = (-14) then (if (0 : Int32) ≤ (lg_cmp a1 a3) then some (0, m) else some (1, m)) else if a0 = (-13) then g_X9_joined_116 w (a1 - a3) m else if a0 = (-12) then g_X9_joined_116 w (a1 + a3) m else if a0 = (-11) then g_X9_joined_116 w (a1 * a3) m else some (a1 ||| a3, m))
theorem s_X9_joined_116 {w : rf_w} {K : rf_K} {r : Int64 × rf_m} (C : rf_Ctx 9 cX9_joined 7 1 (rf_sh w) K) (hE : rf_End (some .long) K (rf_sh w) 0 0 (some (.long r.1)) (rf_MM w r.2)) (a5 : Int64) (m : rf_m) (hg : g_X9_joined_116 w a5 m = some r) : rf_V 7 (rf_sh w) K 0 0 116 ([(5, .long a5)], [], rf_MM w m) := by
  unfold g_X9_joined_116 at hg
  refine rf_seg C [(.lload 5, 2), (.goto_w 1000000000, 3), (.lcmp, 1)] (pc' := 122) (S' := ([(5, .long a5)], [.int (lg_cmp a5 1000000000)], rf_MM w m)) (by decide +kernel) rfl trivial ?_
  refine rf_if_le C 9 131 (by decide +kernel) (fun hc => ?_) (fun hc => ?_)
  · replace hg := (if_pos hc).symm.trans hg
    refine rf_seg C [(.lload 5, 2), (.goto_w (-1000000000), 3), (.lcmp, 1)] (pc' := 137) (S' := ([(5, .long a5)], [.int (lg_cmp a5 ((-1000000000)))], rf_MM w m)) (by decide +kernel) rfl trivial ?_
    refine rf_if_ge C 9 146 (by decide +kernel) (fun hc => ?_) (fun hc => ?_)
    · replace hg := (if_pos hc).symm.trans hg
      refine rf_seg C [(.lload 5, 2)] (pc' := 148) (S' := ([(5, .long a5)], [.long a5], rf_MM w m)) (by decide +kernel) rfl trivial ?_
      obtain rfl := Option.some.inj hg
      exact rf_lret C hE (by decide +kernel)
    · replace hg := (if_neg hc).symm.trans hg
      refine rf_seg C [(.goto_w (-1000000000), 3)] (pc' := 143) (S' := ([(5, .long a5)], [.long ((-1000000000))], rf_MM w m)) (by decide +kernel) rfl trivial ?_
      refine rf_goto C 5 148 (by decide +kernel) ?_
      obtain rfl := Option.some.inj hg
      exact rf_lret C hE (by decide +kernel)
  · replace hg := (if_neg hc).symm.trans hg
    refine rf_seg C [(.goto_w 1000000000, 3)] (pc' := 128) (S' := ([(5, .long a5)], [.long 1000000000], rf_MM w m)) (by decide +kernel) rfl trivial ?_
    refine rf_goto C 20 148 (by decide +kernel) ?_
    obtain rfl := Option.some.inj hg
    exact rf_lret C hE (by decide +kernel)
theorem c_X9_joined {w : rf_w} {m : rf_m} {a0 : Int32} {a1 : Int64} {a3 : Int64} {r : Int64 × rf_m} (hg : g_X9_joined w m a0 a1 a3 = some r) : rf_Con j_X9_joined 1 (rf_sh w) [.int a0, .long a1, .long a3] (rf_MM w m) (some (.long r.1)) (rf_MM w r.2) := by
  refine rf_con j_X9_joined 1 ⟨by decide +kernel, rfl, Nat.le_of_ble_eq_true rfl⟩ (fun K C hE => ?_)
  unfold g_X9_joined at hg
  show rf_V 7 (rf_sh w) K 0 0 0 ([(0, .int a0), (1, .long a1), (3, .long a3)], [], rf_MM w m)
  refine rf_seg C [(.iload 0, 1)] (pc' := 1) (S' := ([(0, .int a0), (1, .long a1), (3, .long a3)], [.int a0], rf_MM w m)) (by decide +kernel) rfl trivial ?_
  by_cases htm18 : a0 = (-18)
  · replace hg := (if_pos htm18).symm.trans hg
    refine rf_tabc C htm18 108 (by decide +kernel) ?_
    refine rf_seg C [(.lload 1, 1), (.lload 3, 1), (.land, 1)] (pc' := 111) (S' := ([(0, .int a0), (1, .long a1), (3, .long a3)], [.long (a1 &&& a3)], rf_MM w m)) (by decide +kernel) rfl trivial ?_
    obtain rfl := Option.some.inj hg
    exact rf_lret C hE (by decide +kernel)
  · replace hg := (if_neg htm18).symm.trans hg
    by_cases htm17 : a0 = (-17)
    · replace hg := (if_pos htm17).symm.trans hg
      refine rf_tabc C htm17 112 (by decide +kernel) ?_
      refine rf_seg C [(.lload 1, 1), (.lload 3, 1), (.lor, 1)] (pc' := 115) (S' := ([(0, .int a0), (1, .long a1), (3, .long a3)], [.long (a1 ||| a3)], rf_MM w m)) (by decide +kernel) rfl trivial ?_
      obtain rfl := Option.some.inj hg
      exact rf_lret C hE (by decide +kernel)
    · replace hg := (if_neg htm17).symm.trans hg
      by_cases htm16 : a0 = (-16)
      · replace hg := (if_pos htm16).symm.trans hg
        refine rf_tabc C htm16 96 (by decide +kernel) ?_
        refine rf_seg C [(.lload 1, 1), (.lload 3, 1), (.lcmp, 1)] (pc' := 99) (S' := ([(0, .int a0), (1, .long a1), (3, .long a3)], [.int (lg_cmp a1 a3)], rf_MM w m)) (by decide +kernel) rfl trivial ?_
        refine rf_if_ne C 7 106 (by decide +kernel) (fun hc => ?_) (fun hc => ?_)
        · replace hg := (if_neg hc).symm.trans hg
          refine rf_seg C [(.goto_w 0, 1)] (pc' := 107) (S' := ([(0, .int a0), (1, .long a1), (3, .long a3)], [.long 0], rf_MM w m)) (by decide +kernel) rfl trivial ?_
          obtain rfl := Option.some.inj hg
          exact rf_lret C hE (by decide +kernel)
        · replace hg := (if_pos hc).symm.trans hg
          refine rf_seg C [(.goto_w 1, 1)] (pc' := 103) (S' := ([(0, .int a0), (1, .long a1), (3, .long a3)], [.long 1], rf_MM w m)) (by decide +kernel) rfl trivial ?_
          refine rf_goto C 4 107 (by decide +kernel) ?_
          obtain rfl := Option.some.inj hg
          exact rf_lret C hE (by decide +kernel)
      · replace hg := (if_neg htm16).symm.trans hg
        by_cases htm15 : a0 = (-15)
        · replace hg := (if_pos htm15).symm.trans hg
          refine rf_tabc C htm15 84 (by decide +kernel) ?_
          refine rf_seg C [(.lload 1, 1), (.lload 3, 1), (.lcmp, 1)] (pc' := 87) (S' := ([(0, .int a0), (1, .long a1), (3, .long a3)], [.int (lg_cmp a1 a3)], rf_MM w m)) (by decide +kernel) rfl trivial ?_
          refine rf_if_le C 7 94 (by decide +kernel) (fun hc => ?_) (fun hc => ?_)
          · replace hg := (if_pos hc).symm.trans hg
            refine rf_seg C [(.goto_w 0, 1)] (pc' := 95) (S' := ([(0, .int a0), (1, .long a1), (3, .long a3)], [.long 0], rf_MM w m)) (by decide +kernel) rfl trivial ?_
            obtain rfl := Option.some.inj hg
            exact rf_lret C hE (by decide +kernel)
          · replace hg := (if_neg hc).symm.trans hg
            refine rf_seg C [(.goto_w 1, 1)] (pc' := 91) (S' := ([(0, .int a0), (1, .long a1), (3, .long a3)], [.long 1], rf_MM w m)) (by decide +kernel) rfl trivial ?_
            refine rf_goto C 4 95 (by decide +kernel) ?_
            obtain rfl := Option.some.inj hg
            exact rf_lret C hE (by decide +kernel)
        · replace hg := (if_neg htm15).symm.trans hg
          by_cases htm14 : a0 = (-14)
          · replace hg := (if_pos htm14).symm.trans hg
            refine rf_tabc C htm14 72 (by decide +kernel) ?_
            refine rf_seg C [(.lload 1, 1), (.lload 3, 1), (.lcmp, 1)] (pc' := 75) (S' := ([(0, .int a0), (1, .long a1), (3, .long a3)], [.int (lg_cmp a1 a3)], rf_MM w m)) (by decide +kernel) rfl trivial ?_
            refine rf_if_ge C 7 82 (by decide +kernel) (fun hc => ?_) (fun hc => ?_)
            · replace hg := (if_pos hc).symm.trans hg
              refine rf_seg C [(.goto_w 0, 1)] (pc' := 83) (S' := ([(0, .int a0), (1, .long a1), (3, .long a3)], [.long 0], rf_MM w m)) (by decide +kernel) rfl trivial ?_
              obtain rfl := Option.some.inj hg
              exact rf_lret C hE (by decide +kernel)
            · replace hg := (if_neg hc).symm.trans hg
              refine rf_seg C [(.goto_w 1, 1)] (pc' := 79) (S' := ([(0, .int a0), (1, .long a1), (3, .long a3)], [.long 1], rf_MM w m)) (by decide +kernel) rfl trivial ?_
              refine rf_goto C 4 83 (by decide +kernel) ?_
              obtain rfl := Option.some.inj hg
              exact rf_lret C hE (by decide +kernel)
          · replace hg := (if_neg htm14).symm.trans hg
            by_cases htm13 : a0 = (-13)
            · replace hg := (if_pos htm13).symm.trans hg
              refine rf_tabc C htm13 56 (by decide +kernel) ?_
              refine rf_seg C [(.lload 1, 1), (.lload 3, 1), (.lsub, 1), (.lstore 5, 2)] (pc' := 61) (S' := ([(5, .long (a1 - a3)), (0, .int a0), (1, .long a1), (3, .long a3)], [], rf_MM w m)) (by decide +kernel) rfl trivial ?_
              refine rf_goto C 55 116 (by decide +kernel) ?_
              refine rf_few [0] rfl ?_
              exact s_X9_joined_116 C hE (a1 - a3) m hg
            · replace hg := (if_neg htm13).symm.trans hg
              by_cases htm12 : a0 = (-12)
              · replace hg := (if_pos htm12).symm.trans hg
                refine rf_tabc C htm12 48 (by decide +kernel) ?_
                refine rf_seg C [(.lload 1, 1), (.lload 3, 1), (.ladd, 1), (.lstore 5, 2)] (pc' := 53) (S' := ([(5, .long (a1 + a3)), (0, .int a0), (1, .long a1), (3, .long a3)], [], rf_MM w m)) (by decide +kernel) rfl trivial ?_
                refine rf_goto C 63 116 (by decide +kernel) ?_
                refine rf_few [0] rfl ?_
                exact s_X9_joined_116 C hE (a1 + a3) m hg
              · replace hg := (if_neg htm12).symm.trans hg
                by_cases htm11 : a0 = (-11)
                · replace hg := (if_pos htm11).symm.trans hg
                  refine rf_tabc C htm11 64 (by decide +kernel) ?_
                  refine rf_seg C [(.lload 1, 1), (.lload 3, 1), (.lmul, 1), (.lstore 5, 2)] (pc' := 69) (S' := ([(5, .long (a1 * a3)), (0, .int a0), (1, .long a1), (3, .long a3)], [], rf_MM w m)) (by decide +kernel) rfl trivial ?_
                  refine rf_goto C 47 116 (by decide +kernel) ?_
                  refine rf_few [0] rfl ?_
                  exact s_X9_joined_116 C hE (a1 * a3) m hg
                · replace hg := (if_neg htm11).symm.trans hg
                  refine rf_tabd C (-18) (-11) 112 (by decide +kernel) (by have t0 : (a0).toInt ≠ (-18) := rf_ti htm18; have t1 : (a0).toInt ≠ (-17) := rf_ti htm17; have t2 : (a0).toInt ≠ (-16) := rf_ti htm16; have t3 : (a0).toInt ≠ (-15) := rf_ti htm15; have t4 : (a0).toInt ≠ (-14) := rf_ti htm14; have t5 : (a0).toInt ≠ (-13) := rf_ti htm13; have t6 : (a0).toInt ≠ (-12) := rf_ti htm12; have t7 : (a0).toInt ≠ (-11) := rf_ti htm11; omega) ?_
                  refine rf_seg C [(.lload 1, 1), (.lload 3, 1), (.lor, 1)] (pc' := 115) (S' := ([(0, .int a0), (1, .long a1), (3, .long a3)], [.long (a1 ||| a3)], rf_MM w m)) (by decide +kernel) rfl trivial ?_
                  obtain rfl := Option.some.inj hg
                  exact rf_lret C hE (by decide +kernel)
-- X9_run
abbrev j_X9_run : rf_J := (9, yX9_run, cX9_run, 7, (some .long))
theorem mw_X9_run : rf_mv j_X9_run (rf_R 9) 3 := ⟨⟨rf_mem 27 (by decide +kernel), rf_mem 27 (by decide +kernel), rf_mem 0 (by decide +kernel), rf_mem 28 (by decide +kernel)⟩, by decide +kernel, by decide⟩
def g_X9_run_158 (w : rf_w) (rec12 : Int32 → Int32 → Int32 → Int32 → rf_m → Option (Int64 × rf_m)) (a1 : Int32) (a3 : Int32) (a4 : Int32) (a5 : Int32) (m : rf_m) : Option (Int64 × rf_m) := rec12 a1 a3 a4 (a5 + 1) m
def g_X9_run_77 (w : rf_w) (rec12 : Int32 → Int32 → Int32 → Int32 → rf_m → Option (Int64 × rf_m)) (a1 : Int32) (a3 : Int32) (a4 : Int32) (a5 : Int32) (s1 : Int32) (s2 : Int64) (m : rf_m) : Option (Int64 × rf_m) := rf_g (rf_in s1 31) (g_X9_run_158 w rec12 a1 a3 (a4 + 1) a5 (rf_l m 25 (Int32.toNatClampNeg s1) s2))
def g_X9_run_12_b (w : rf_w) (rec12 : Int32 → Int32 → Int32 → Int32 → rf_m → Option (Int64 × rf_m)) (a1 : Int32) (a3 : Int32) (a4 : Int32) (a5 : Int32) (m : rf_m) : Option (Int64 × rf_m) := (if ((a1 * 160) + a3) ≤ a5 then (if a4 ≤ 0 then some (0, m) else some (m.2 25 (Int32.toNatClampNeg 0), m)) else rf_g (rf_in a5 3840) (rf_vi (m.1 24 (Int32.toNatClampNeg a5)) fun x1 => (if x1 < ((-7)) then (if x1 = ((-17)) then (if a4 ≤ 0 then g_X9_run_158 w rec12 a1 a3 a4 a5 m else rf_g (rf_in (a4 - 1) 31) (rf_g (rf_in (a4 - 1) 31) (g_X9_run_158 w rec12 a1 a3 a4 a5 (rf_l m 25 (Int32.toNatClampNeg (a4 - 1)) (1 - (m.2 25 (Int32.toNatClampNeg (a4 - 1)))))))) else (if a4 ≤ 1 then g_X9_run_158 w rec12 a1 a3 a4 a5 m else rf_g (rf_in ((a4 + (-1)) - 1) 31) (rf_g (rf_in (a4 + (-1)) 31) (rf_b (g_X9_joined w m x1 (m.2 25 (Int32.toNatClampNeg ((a4 + (-1)) - 1))) (m.2 25 (Int32.toNatClampNeg (a4 + (-1))))) fun y4 m4 => rf_g (rf_in ((a4 + (-1)) - 1) 31) (g_X9_run_158 w rec12 a1 a3 (a4 + (-1)) a5 (rf_l m4 25 (Int32.toNatClampNeg ((a4 + (-1)) - 1)) y4)))))) else (if 31 ≤ a4 then g_X9_run_158 w rec12 a1 a3 a4 a5 m else (if x1 < 0 then rf_g (rf_in (((-1)) - x1) 7) (g_X9_run_77 w rec12 a1 a3 a4 a5 a4 (Int32.toInt64 (m.1 18 (Int32.toNatClampNeg (((-1)) - x1)))) m) else g_X9_run_77 w rec12 a1 a3 a4 a5 a4 (Int32.toInt64 x1) m)))))
def g_X9_run_12 (w : rf_w) : Nat → Int32 → Int32 → Int32 → Int32 → rf_m → Option (Int64 × rf_m)
  | 0, _, _, _, _, _ => none
  | n + 1, a1, a3, a4, a5, m => g_X9_run_12_b w (g_X9_run_12 w n) a1 a3 a4 a5 m
def g_X9_run (w : rf_w) (m : rf_m) (a1 : Int32) (a2 : Int32) (a3 : Int32) : Option (Int64 × rf_m) := g_X9_run_12 w rf_fuel a1 a3 0 ((a1 * 160) + a2) m
theorem s_X9_run_158 {w : rf_w} {K : rf_K} {r : Int64 × rf_m} (C : rf_Ctx 9 cX9_run 7 2 (rf_sh w) K) (hE : rf_End (some .long) K (rf_sh w) 0 0 (some (.long r.1)) (rf_MM w r.2)) {rec12 : Int32 → Int32 → Int32 → Int32 → rf_m → Option (Int64 × rf_m)} (hr12 : ∀ (a1 : Int32) (a3 : Int32) (a4 : Int32) (a5 : Int32) (m : rf_m), rec12 a1 a3 a4 a5 m = some r → rf_V 7 (rf_sh w) K 0 0 12 ([(0, .ref 13), (1, .int a1), (3, .int a3), (4, .int a4), (5, .int a5)], [], rf_MM w m)) (a1 : Int32) (a3 : Int32) (a4 : Int32) (a5 : Int32) (m : rf_m) (hg : g_X9_run_158 w rec12 a1 a3 a4 a5 m = some r) : rf_V 7 (rf_sh w) K 0 0 158 ([(0, .ref 13), (1, .int a1), (3, .int a3), (4, .int a4), (5, .int a5)], [], rf_MM w m) := by
  unfold g_X9_run_158 at hg
  refine rf_seg C [(.iinc 5 1, 3)] (pc' := 161) (S' := ([(5, .int (a5 + 1)), (0, .ref 13), (1, .int a1), (3, .int a3), (4, .int a4)], [], rf_MM w m)) (by decide +kernel) rfl trivial ?_
  refine rf_goto C (-149) 12 (by decide +kernel) ?_
  refine rf_few [1, 2, 3, 4, 0] rfl ?_
  exact hr12 a1 a3 a4 (a5 + 1) m hg
theorem s_X9_run_77 {w : rf_w} {K : rf_K} {r : Int64 × rf_m} (C : rf_Ctx 9 cX9_run 7 2 (rf_sh w) K) (hE : rf_End (some .long) K (rf_sh w) 0 0 (some (.long r.1)) (rf_MM w r.2)) {rec12 : Int32 → Int32 → Int32 → Int32 → rf_m → Option (Int64 × rf_m)} (hr12 : ∀ (a1 : Int32) (a3 : Int32) (a4 : Int32) (a5 : Int32) (m : rf_m), rec12 a1 a3 a4 a5 m = some r → rf_V 7 (rf_sh w) K 0 0 12 ([(0, .ref 13), (1, .int a1), (3, .int a3), (4, .int a4), (5, .int a5)], [], rf_MM w m)) (a1 : Int32) (a3 : Int32) (a4 : Int32) (a5 : Int32) (s1 : Int32) (s2 : Int64) (m : rf_m) (hg : g_X9_run_77 w rec12 a1 a3 a4 a5 s1 s2 m = some r) : rf_V 7 (rf_sh w) K 0 0 77 ([(0, .ref 13), (1, .int a1), (3, .int a3), (4, .int a4), (5, .int a5)], [.long s2, .int s1, .ref 25], rf_MM w m) := by
  unfold g_X9_run_77 at hg
  obtain ⟨q0, hg⟩ := rf_g_some hg
  refine rf_seg C [(.lastore, 1), (.iinc 4 1, 3)] (pc' := 81) (S' := ([(4, .int (a4 + 1)), (0, .ref 13), (1, .int a1), (3, .int a3), (5, .int a5)], [], rf_MM w (rf_l m 25 (Int32.toNatClampNeg s1) s2))) (by decide +kernel) rfl (rf_in_of q0) ?_
  refine rf_goto C 77 158 (by decide +kernel) ?_
  refine rf_few [1, 2, 3, 0, 4] rfl ?_
  exact s_X9_run_158 C hE hr12 a1 a3 (a4 + 1) a5 (rf_l m 25 (Int32.toNatClampNeg s1) s2) hg
theorem s_X9_run_12_b {w : rf_w} {K : rf_K} {r : Int64 × rf_m} (C : rf_Ctx 9 cX9_run 7 2 (rf_sh w) K) (hE : rf_End (some .long) K (rf_sh w) 0 0 (some (.long r.1)) (rf_MM w r.2)) {rec12 : Int32 → Int32 → Int32 → Int32 → rf_m → Option (Int64 × rf_m)} (hr12 : ∀ (a1 : Int32) (a3 : Int32) (a4 : Int32) (a5 : Int32) (m : rf_m), rec12 a1 a3 a4 a5 m = some r → rf_V 7 (rf_sh w) K 0 0 12 ([(0, .ref 13), (1, .int a1), (3, .int a3), (4, .int a4), (5, .int a5)], [], rf_MM w m)) (a1 : Int32) (a3 : Int32) (a4 : Int32) (a5 : Int32) (m : rf_m) (hg : g_X9_run_12_b w rec12 a1 a3 a4 a5 m = some r) : rf_V 7 (rf_sh w) K 0 0 12 ([(0, .ref 13), (1, .int a1), (3, .int a3), (4, .int a4), (5, .int a5)], [], rf_MM w m) := by
  unfold g_X9_run_12_b at hg
  refine rf_seg C [(.iload 5, 2), (.iload 1, 1), (.iconst 160, 3), (.imul, 1), (.iload 3, 1), (.iadd, 1)] (pc' := 21) (S' := ([(0, .ref 13), (1, .int a1), (3, .int a3), (4, .int a4), (5, .int a5)], [.int ((a1 * 160) + a3), .int a5], rf_MM w m)) (by decide +kernel) rfl trivial ?_
  refine rf_icmp_ge C 143 164 (by decide +kernel) (fun hc => ?_) (fun hc => ?_)
  · replace hg := (if_pos hc).symm.trans hg
    refine rf_seg C [(.iload 4, 2)] (pc' := 166) (S' := ([(0, .ref 13), (1, .int a1), (3, .int a3), (4, .int a4), (5, .int a5)], [.int a4], rf_MM w m)) (by decide +kernel) rfl trivial ?_
    refine rf_if_le C 12 178 (by decide +kernel) (fun hc => ?_) (fun hc => ?_)
    · replace hg := (if_pos hc).symm.trans hg
      refine rf_seg C [(.goto_w 0, 1)] (pc' := 179) (S' := ([(0, .ref 13), (1, .int a1), (3, .int a3), (4, .int a4), (5, .int a5)], [.long 0], rf_MM w m)) (by decide +kernel) rfl trivial ?_
      obtain rfl := Option.some.inj hg
      exact rf_lret C hE (by decide +kernel)
    · replace hg := (if_neg hc).symm.trans hg
      refine rf_seg C [(.aload 0, 1), (.invokeinterface 9 10, 3), (.iconst 0, 1), (.laload, 1)] (pc' := 175) (S' := ([(0, .ref 13), (1, .int a1), (3, .int a3), (4, .int a4), (5, .int a5)], [.long (m.2 25 (Int32.toNatClampNeg 0))], rf_MM w m)) (by decide +kernel) rfl (rf_in_of (by decide)) ?_
      refine rf_goto C 4 179 (by decide +kernel) ?_
      obtain rfl := Option.some.inj hg
      exact rf_lret C hE (by decide +kernel)
  · replace hg := (if_neg hc).symm.trans hg
    obtain ⟨q0, hg⟩ := rf_g_some hg
    refine rf_seg C [(.aload 0, 1), (.invokeinterface 9 9, 3), (.iload 5, 2), (.iaload, 1)] (pc' := 31) (S' := ([(0, .ref 13), (1, .int a1), (3, .int a3), (4, .int a4), (5, .int a5)], [.int (m.1 24 (Int32.toNatClampNeg a5))], rf_MM w m)) (by decide +kernel) rfl (rf_in_of q0) ?_
    obtain ⟨x1, hx1, hg⟩ := rf_vi_some hg
    refine rf_vi_top hx1 ?_
    refine rf_seg C [(.istore 6, 2), (.iload 6, 2), (.iconst (-7), 2)] (pc' := 37) (S' := ([(6, .int x1), (0, .ref 13), (1, .int a1), (3, .int a3), (4, .int a4), (5, .int a5)], [.int ((-7)), .int x1], rf_MM w m)) (by decide +kernel) rfl trivial ?_
    refine rf_icmp_lt C 47 84 (by decide +kernel) (fun hc => ?_) (fun hc => ?_)
    · replace hg := (if_pos hc).symm.trans hg
      refine rf_seg C [(.iload 6, 2), (.iconst (-17), 2)] (pc' := 88) (S' := ([(6, .int x1), (0, .ref 13), (1, .int a1), (3, .int a3), (4, .int a4), (5, .int a5)], [.int ((-17)), .int x1], rf_MM w m)) (by decide +kernel) rfl trivial ?_
      refine rf_icmp_ne C 31 119 (by decide +kernel) (fun hc => ?_) (fun hc => ?_)
      · replace hg := (if_neg hc).symm.trans hg
        refine rf_seg C [(.iload 4, 2), (.iconst 1, 1)] (pc' := 122) (S' := ([(6, .int x1), (0, .ref 13), (1, .int a1), (3, .int a3), (4, .int a4), (5, .int a5)], [.int 1, .int a4], rf_MM w m)) (by decide +kernel) rfl trivial ?_
        refine rf_icmp_le C 36 158 (by decide +kernel) (fun hc => ?_) (fun hc => ?_)
        · replace hg := (if_pos hc).symm.trans hg
          refine rf_few [1, 2, 3, 4, 5] rfl ?_
          exact s_X9_run_158 C hE hr12 a1 a3 a4 a5 m hg
        · replace hg := (if_neg hc).symm.trans hg
          obtain ⟨q2, hg⟩ := rf_g_some hg
          obtain ⟨q3, hg⟩ := rf_g_some hg
          refine rf_seg C [(.iinc 4 (-1), 3), (.aload 0, 1), (.invokeinterface 9 10, 3), (.iload 4, 2), (.iconst 1, 1), (.isub, 1), (.iload 6, 2), (.aload 0, 1), (.invokeinterface 9 10, 3), (.iload 4, 2), (.iconst 1, 1), (.isub, 1), (.laload, 1), (.aload 0, 1), (.invokeinterface 9 10, 3), (.iload 4, 2), (.laload, 1)] (pc' := 154) (S' := ([(4, .int (a4 + (-1))), (6, .int x1), (0, .ref 13), (1, .int a1), (3, .int a3), (5, .int a5)], [.long (m.2 25 (Int32.toNatClampNeg (a4 + (-1)))), .long (m.2 25 (Int32.toNatClampNeg ((a4 + (-1)) - 1))), .int x1, .int ((a4 + (-1)) - 1), .ref 25], rf_MM w m)) (by decide +kernel) rfl (by exact ⟨(rf_in_of q2), (rf_in_of q3)⟩) ?_
          obtain ⟨y4, m4, hc4, hg⟩ := rf_b_some hg
          refine rf_calls C rf_fit0 j_X9_joined (As := [.int x1, .long (m.2 25 (Int32.toNatClampNeg ((a4 + (-1)) - 1))), .long (m.2 25 (Int32.toNatClampNeg (a4 + (-1))))]) (rest := [.int ((a4 + (-1)) - 1), .ref 25]) mw_X9_joined (c_X9_joined hc4) (by decide) lk_9_113 rfl rfl (Nat.le_of_ble_eq_true rfl) (by decide +kernel) ?_
          show rf_V 7 (rf_sh w) K 0 0 157 ([(4, .int (a4 + (-1))), (6, .int x1), (0, .ref 13), (1, .int a1), (3, .int a3), (5, .int a5)], [.long y4, .int ((a4 + (-1)) - 1), .ref 25], rf_MM w m4)
          obtain ⟨q5, hg⟩ := rf_g_some hg
          refine rf_seg C [(.lastore, 1)] (pc' := 158) (S' := ([(4, .int (a4 + (-1))), (6, .int x1), (0, .ref 13), (1, .int a1), (3, .int a3), (5, .int a5)], [], rf_MM w (rf_l m4 25 (Int32.toNatClampNeg ((a4 + (-1)) - 1)) y4))) (by decide +kernel) rfl (rf_in_of q5) ?_
          refine rf_few [2, 3, 4, 0, 5] rfl ?_
          exact s_X9_run_158 C hE hr12 a1 a3 (a4 + (-1)) a5 (rf_l m4 25 (Int32.toNatClampNeg ((a4 + (-1)) - 1)) y4) hg
      · replace hg := (if_pos hc).symm.trans hg
        refine rf_seg C [(.iload 4, 2)] (pc' := 93) (S' := ([(6, .int x1), (0, .ref 13), (1, .int a1), (3, .int a3), (4, .int a4), (5, .int a5)], [.int a4], rf_MM w m)) (by decide +kernel) rfl trivial ?_
        refine rf_if_le C 65 158 (by decide +kernel) (fun hc => ?_) (fun hc => ?_)
        · replace hg := (if_pos hc).symm.trans hg
          refine rf_few [1, 2, 3, 4, 5] rfl ?_
          exact s_X9_run_158 C hE hr12 a1 a3 a4 a5 m hg
        · replace hg := (if_neg hc).symm.trans hg
          obtain ⟨q6, hg⟩ := rf_g_some hg
          obtain ⟨q7, hg⟩ := rf_g_some hg
          refine rf_seg C [(.aload 0, 1), (.invokeinterface 9 10, 3), (.iload 4, 2), (.iconst 1, 1), (.isub, 1), (.goto_w 1, 1), (.aload 0, 1), (.invokeinterface 9 10, 3), (.iload 4, 2), (.iconst 1, 1), (.isub, 1), (.laload, 1), (.lsub, 1), (.lastore, 1)] (pc' := 116) (S' := ([(6, .int x1), (0, .ref 13), (1, .int a1), (3, .int a3), (4, .int a4), (5, .int a5)], [], rf_MM w (rf_l m 25 (Int32.toNatClampNeg (a4 - 1)) (1 - (m.2 25 (Int32.toNatClampNeg (a4 - 1))))))) (by decide +kernel) rfl (by exact ⟨(rf_in_of q6), (rf_in_of q7)⟩) ?_
          refine rf_goto C 42 158 (by decide +kernel) ?_
          refine rf_few [1, 2, 3, 4, 5] rfl ?_
          exact s_X9_run_158 C hE hr12 a1 a3 a4 a5 (rf_l m 25 (Int32.toNatClampNeg (a4 - 1)) (1 - (m.2 25 (Int32.toNatClampNeg (a4 - 1))))) hg
    · replace hg := (if_neg hc).symm.trans hg
      refine rf_seg C [(.iload 4, 2), (.aload 0, 1), (.invokeinterface 9 10, 3), (.arraylength, 1)] (pc' := 47) (S' := ([(6, .int x1), (0, .ref 13), (1, .int a1), (3, .int a3), (4, .int a4), (5, .int a5)], [.int 31, .int a4], rf_MM w m)) (by decide +kernel) rfl trivial ?_
      refine rf_icmp_ge C 111 158 (by decide +kernel) (fun hc => ?_) (fun hc => ?_)
      · replace hg := (if_pos hc).symm.trans hg
        refine rf_few [1, 2, 3, 4, 5] rfl ?_
        exact s_X9_run_158 C hE hr12 a1 a3 a4 a5 m hg
      · replace hg := (if_neg hc).symm.trans hg
        refine rf_seg C [(.aload 0, 1), (.invokeinterface 9 10, 3), (.iload 4, 2), (.iload 6, 2)] (pc' := 58) (S' := ([(6, .int x1), (0, .ref 13), (1, .int a1), (3, .int a3), (4, .int a4), (5, .int a5)], [.int x1, .int a4, .ref 25], rf_MM w m)) (by decide +kernel) rfl trivial ?_
        refine rf_if_lt C 9 67 (by decide +kernel) (fun hc => ?_) (fun hc => ?_)
        · replace hg := (if_pos hc).symm.trans hg
          obtain ⟨q8, hg⟩ := rf_g_some hg
          refine rf_seg C [(.aload 0, 1), (.invokeinterface 9 1, 3), (.iconst (-1), 1), (.iload 6, 2), (.isub, 1), (.iaload, 1), (.i2l, 1)] (pc' := 77) (S' := ([(6, .int x1), (0, .ref 13), (1, .int a1), (3, .int a3), (4, .int a4), (5, .int a5)], [.long (Int32.toInt64 (m.1 18 (Int32.toNatClampNeg (((-1)) - x1)))), .int a4, .ref 25], rf_MM w m)) (by decide +kernel) rfl (rf_in_of q8) ?_
          refine rf_few [1, 2, 3, 4, 5] rfl ?_
          exact s_X9_run_77 C hE hr12 a1 a3 a4 a5 a4 (Int32.toInt64 (m.1 18 (Int32.toNatClampNeg (((-1)) - x1)))) m hg
        · replace hg := (if_neg hc).symm.trans hg
          refine rf_seg C [(.iload 6, 2), (.i2l, 1)] (pc' := 64) (S' := ([(6, .int x1), (0, .ref 13), (1, .int a1), (3, .int a3), (4, .int a4), (5, .int a5)], [.long (Int32.toInt64 x1), .int a4, .ref 25], rf_MM w m)) (by decide +kernel) rfl trivial ?_
          refine rf_goto C 13 77 (by decide +kernel) ?_
          refine rf_few [1, 2, 3, 4, 5] rfl ?_
          exact s_X9_run_77 C hE hr12 a1 a3 a4 a5 a4 (Int32.toInt64 x1) m hg
theorem s_X9_run_12 {w : rf_w} {K : rf_K} {r : Int64 × rf_m} (C : rf_Ctx 9 cX9_run 7 2 (rf_sh w) K) (hE : rf_End (some .long) K (rf_sh w) 0 0 (some (.long r.1)) (rf_MM w r.2)) (n : Nat) : ∀ (a1 : Int32) (a3 : Int32) (a4 : Int32) (a5 : Int32) (m : rf_m), g_X9_run_12 w n a1 a3 a4 a5 m = some r → rf_V 7 (rf_sh w) K 0 0 12 ([(0, .ref 13), (1, .int a1), (3, .int a3), (4, .int a4), (5, .int a5)], [], rf_MM w m) := by
  induction n with
  | zero => intro a1 a3 a4 a5 m hg; cases hg
  | succ n ih => intro a1 a3 a4 a5 m hg; exact s_X9_run_12_b C hE ih a1 a3 a4 a5 m hg
theorem c_X9_run {w : rf_w} {m : rf_m} {a1 : Int32} {a2 : Int32} {a3 : Int32} {r : Int64 × rf_m} (hg : g_X9_run w m a1 a2 a3 = some r) : rf_Con j_X9_run 2 (rf_sh w) [.ref 13, .int a1, .int a2, .int a3] (rf_MM w m) (some (.long r.1)) (rf_MM w r.2) := by
  refine rf_con j_X9_run 2 ⟨by decide +kernel, rfl, Nat.le_of_ble_eq_true rfl⟩ (fun K C hE => ?_)
  unfold g_X9_run at hg
  show rf_V 7 (rf_sh w) K 0 0 0 ([(0, .ref 13), (1, .int a1), (2, .int a2), (3, .int a3)], [], rf_MM w m)
  refine rf_seg C [(.iconst 0, 1), (.istore 4, 2), (.iload 1, 1), (.iconst 160, 3), (.imul, 1), (.iload 2, 1), (.iadd, 1), (.istore 5, 2)] (pc' := 12) (S' := ([(5, .int ((a1 * 160) + a2)), (4, .int 0), (0, .ref 13), (1, .int a1), (2, .int a2), (3, .int a3)], [], rf_MM w m)) (by decide +kernel) rfl trivial ?_
  refine rf_few [2, 3, 5, 1, 0] rfl ?_
  exact s_X9_run_12 C hE rf_fuel a1 a3 0 ((a1 * 160) + a2) m hg
-- X9_holds
abbrev j_X9_holds : rf_J := (9, yX9_holds, cX9_holds, 2, (some .boolean))
theorem mw_X9_holds : rf_mv j_X9_holds (rf_R 9) 1 := ⟨⟨rf_mem 27 (by decide +kernel), rf_mem 27 (by decide +kernel), rf_mem 0 (by decide +kernel), rf_mem 27 (by decide +kernel)⟩, by decide +kernel, by decide⟩
def g_X9_holds (w : rf_w) (m : rf_m) (a1 : Int32) : Option (Int32 × rf_m) := rf_g (rf_in a1 24) (rf_g (rf_in a1 24) ((if (m.1 22 (Int32.toNatClampNeg a1)) = (m.1 23 (Int32.toNatClampNeg a1)) then some (1, m) else rf_g (rf_in a1 24) (rf_g (rf_in a1 24) (rf_b (g_X9_run w m a1 (m.1 22 (Int32.toNatClampNeg a1)) (m.1 23 (Int32.toNatClampNeg a1))) fun y4 m4 => (if (lg_cmp y4 0) = 0 then some (0, m4) else some (1, m4)))))))
theorem c_X9_holds {w : rf_w} {m : rf_m} {a1 : Int32} {r : Int32 × rf_m} (hg : g_X9_holds w m a1 = some r) : rf_Con j_X9_holds 3 (rf_sh w) [.ref 13, .int a1] (rf_MM w m) (some (.int r.1)) (rf_MM w r.2) := by
  refine rf_con j_X9_holds 3 ⟨by decide +kernel, rfl, Nat.le_of_ble_eq_true rfl⟩ (fun K C hE => ?_)
  unfold g_X9_holds at hg
  show rf_V 2 (rf_sh w) K 0 0 0 ([(0, .ref 13), (1, .int a1)], [], rf_MM w m)
  obtain ⟨q0, hg⟩ := rf_g_some hg
  obtain ⟨q1, hg⟩ := rf_g_some hg
  refine rf_seg C [(.aload 0, 1), (.invokeinterface 9 7, 3), (.iload 1, 1), (.iaload, 1), (.aload 0, 1), (.invokeinterface 9 8, 3), (.iload 1, 1), (.iaload, 1)] (pc' := 12) (S' := ([(0, .ref 13), (1, .int a1)], [.int (m.1 23 (Int32.toNatClampNeg a1)), .int (m.1 22 (Int32.toNatClampNeg a1))], rf_MM w m)) (by decide +kernel) rfl (by exact ⟨(rf_in_of q0), (rf_in_of q1)⟩) ?_
  refine rf_icmp_eq C 25 37 (by decide +kernel) (fun hc => ?_) (fun hc => ?_)
  · replace hg := (if_pos hc).symm.trans hg
    refine rf_seg C [(.iconst 1, 1)] (pc' := 38) (S' := ([(0, .ref 13), (1, .int a1)], [.int 1], rf_MM w m)) (by decide +kernel) rfl trivial ?_
    refine rf_goto C 4 42 (by decide +kernel) ?_
    obtain rfl := Option.some.inj hg
    exact rf_zret C hE (by decide) (by decide +kernel)
  · replace hg := (if_neg hc).symm.trans hg
    obtain ⟨q2, hg⟩ := rf_g_some hg
    obtain ⟨q3, hg⟩ := rf_g_some hg
    refine rf_seg C [(.aload 0, 1), (.iload 1, 1), (.aload 0, 1), (.invokeinterface 9 7, 3), (.iload 1, 1), (.iaload, 1), (.aload 0, 1), (.invokeinterface 9 8, 3), (.iload 1, 1), (.iaload, 1)] (pc' := 29) (S' := ([(0, .ref 13), (1, .int a1)], [.int (m.1 23 (Int32.toNatClampNeg a1)), .int (m.1 22 (Int32.toNatClampNeg a1)), .int a1, .ref 13], rf_MM w m)) (by decide +kernel) rfl (by exact ⟨(rf_in_of q2), (rf_in_of q3)⟩) ?_
    obtain ⟨y4, m4, hc4, hg⟩ := rf_b_some hg
    refine rf_callv C rf_fit0 j_X9_run (ci := 9) (As := [.int a1, .int (m.1 22 (Int32.toNatClampNeg a1)), .int (m.1 23 (Int32.toNatClampNeg a1))]) (rest := []) mw_X9_run (c_X9_run hc4) (by decide) rfl (by decide) lk_9_109 rfl rfl (Nat.le_of_ble_eq_true rfl) (by decide +kernel) ?_
    show rf_V 2 (rf_sh w) K 0 0 32 ([(0, .ref 13), (1, .int a1)], [.long y4], rf_MM w m4)
    refine rf_seg C [(.goto_w 0, 1), (.lcmp, 1)] (pc' := 34) (S' := ([(0, .ref 13), (1, .int a1)], [.int (lg_cmp y4 0)], rf_MM w m4)) (by decide +kernel) rfl trivial ?_
    refine rf_if_eq C 7 41 (by decide +kernel) (fun hc => ?_) (fun hc => ?_)
    · replace hg := (if_pos hc).symm.trans hg
      refine rf_seg C [(.iconst 0, 1)] (pc' := 42) (S' := ([(0, .ref 13), (1, .int a1)], [.int 0], rf_MM w m4)) (by decide +kernel) rfl trivial ?_
      obtain rfl := Option.some.inj hg
      exact rf_zret C hE (by decide) (by decide +kernel)
    · replace hg := (if_neg hc).symm.trans hg
      refine rf_seg C [(.iconst 1, 1)] (pc' := 38) (S' := ([(0, .ref 13), (1, .int a1)], [.int 1], rf_MM w m4)) (by decide +kernel) rfl trivial ?_
      refine rf_goto C 4 42 (by decide +kernel) ?_
      obtain rfl := Option.some.inj hg
      exact rf_zret C hE (by decide) (by decide +kernel)
-- X9_total
abbrev j_X9_total : rf_J := (9, yX9_total, cX9_total, 2, (some .int))
theorem mw_X9_total : rf_mv j_X9_total (rf_R 9) 1 := ⟨⟨rf_mem 32 (by decide +kernel), rf_mem 32 (by decide +kernel), rf_mem 0 (by decide +kernel), rf_mem 32 (by decide +kernel)⟩, by decide +kernel, by decide⟩
def g_X9_total (w : rf_w) (m : rf_m) (a1 : Int32) : Option (Int32 × rf_m) := rf_g (rf_in a1 24) (rf_b (g_X9_run w m a1 0 (m.1 22 (Int32.toNatClampNeg a1))) fun y1 m1 => some (Int64.toInt32 y1, m1))
theorem c_X9_total {w : rf_w} {m : rf_m} {a1 : Int32} {r : Int32 × rf_m} (hg : g_X9_total w m a1 = some r) : rf_Con j_X9_total 3 (rf_sh w) [.ref 13, .int a1] (rf_MM w m) (some (.int r.1)) (rf_MM w r.2) := by
  refine rf_con j_X9_total 3 ⟨by decide +kernel, rfl, Nat.le_of_ble_eq_true rfl⟩ (fun K C hE => ?_)
  unfold g_X9_total at hg
  show rf_V 2 (rf_sh w) K 0 0 0 ([(0, .ref 13), (1, .int a1)], [], rf_MM w m)
  obtain ⟨q0, hg⟩ := rf_g_some hg
  refine rf_seg C [(.aload 0, 1), (.iload 1, 1), (.iconst 0, 1), (.aload 0, 1), (.invokeinterface 9 7, 3), (.iload 1, 1), (.iaload, 1)] (pc' := 9) (S' := ([(0, .ref 13), (1, .int a1)], [.int (m.1 22 (Int32.toNatClampNeg a1)), .int 0, .int a1, .ref 13], rf_MM w m)) (by decide +kernel) rfl (rf_in_of q0) ?_
  obtain ⟨y1, m1, hc1, hg⟩ := rf_b_some hg
  refine rf_callv C rf_fit0 j_X9_run (ci := 9) (As := [.int a1, .int 0, .int (m.1 22 (Int32.toNatClampNeg a1))]) (rest := []) mw_X9_run (c_X9_run hc1) (by decide) rfl (by decide) lk_9_109 rfl rfl (Nat.le_of_ble_eq_true rfl) (by decide +kernel) ?_
  show rf_V 2 (rf_sh w) K 0 0 12 ([(0, .ref 13), (1, .int a1)], [.long y1], rf_MM w m1)
  refine rf_seg C [(.l2i, 1)] (pc' := 13) (S' := ([(0, .ref 13), (1, .int a1)], [.int (Int64.toInt32 y1)], rf_MM w m1)) (by decide +kernel) rfl trivial ?_
  obtain rfl := Option.some.inj hg
  exact rf_iret C hE (by decide +kernel)
-- min
abbrev j_min : rf_J := (22, Lib.Math.min.name, Lib.Math.min.code, 2, (some .int))
theorem mw_min : rf_ms j_min 2 := ⟨⟨rf_mem 26 (by decide +kernel), rf_mem 20 (by decide +kernel), rf_mem 26 (by decide +kernel)⟩, by decide +kernel, by decide⟩
def g_min (w : rf_w) (m : rf_m) (a0 : Int32) (a1 : Int32) : Option (Int32 × rf_m) := (if a1 < a0 then some (a1, m) else some (a0, m))
theorem c_min {w : rf_w} {m : rf_m} {a0 : Int32} {a1 : Int32} {r : Int32 × rf_m} (hg : g_min w m a0 a1 = some r) : rf_Con j_min 1 (rf_sh w) [.int a0, .int a1] (rf_MM w m) (some (.int r.1)) (rf_MM w r.2) := by
  refine rf_con j_min 1 ⟨by decide +kernel, rfl, Nat.le_of_ble_eq_true rfl⟩ (fun K C hE => ?_)
  unfold g_min at hg
  show rf_V 2 (rf_sh w) K 0 0 0 ([(0, .int a0), (1, .int a1)], [], rf_MM w m)
  refine rf_seg C [(.iload 0, 1), (.iload 1, 1)] (pc' := 2) (S' := ([(0, .int a0), (1, .int a1)], [.int a1, .int a0], rf_MM w m)) (by decide +kernel) rfl trivial ?_
  refine rf_icmp_gt C 7 9 (by decide +kernel) (fun hc => ?_) (fun hc => ?_)
  · replace hg := (if_pos hc).symm.trans hg
    refine rf_seg C [(.iload 1, 1)] (pc' := 10) (S' := ([(0, .int a0), (1, .int a1)], [.int a1], rf_MM w m)) (by decide +kernel) rfl trivial ?_
    obtain rfl := Option.some.inj hg
    exact rf_iret C hE (by decide +kernel)
  · replace hg := (if_neg hc).symm.trans hg
    refine rf_seg C [(.iload 0, 1)] (pc' := 6) (S' := ([(0, .int a0), (1, .int a1)], [.int a0], rf_MM w m)) (by decide +kernel) rfl trivial ?_
    refine rf_goto C 4 10 (by decide +kernel) ?_
    obtain rfl := Option.some.inj hg
    exact rf_iret C hE (by decide +kernel)
-- X9_weight
abbrev j_X9_weight : rf_J := (9, yX9_weight, cX9_weight, 3, (some .int))
theorem mw_X9_weight : rf_mv j_X9_weight (rf_R 9) 1 := ⟨⟨rf_mem 32 (by decide +kernel), rf_mem 32 (by decide +kernel), rf_mem 0 (by decide +kernel), rf_mem 32 (by decide +kernel)⟩, by decide +kernel, by decide⟩
def g_X9_weight_43 (w : rf_w) (rec2 : Int32 → Int32 → rf_m → Option (Int32 × rf_m)) (a1 : Int32) (a2 : Int32) (m : rf_m) : Option (Int32 × rf_m) := rec2 a1 (a2 + 1) m
def g_X9_weight_2_b (w : rf_w) (rec2 : Int32 → Int32 → rf_m → Option (Int32 × rf_m)) (a1 : Int32) (a2 : Int32) (m : rf_m) : Option (Int32 × rf_m) := (if (m.1 13 3) ≤ a2 then some (1, m) else rf_b (g_X9_isDue w m a2 2 a1) fun y0 m0 => (if y0 = 0 then g_X9_weight_43 w rec2 a1 a2 m0 else rf_b (g_X9_holds w m0 a2) fun y1 m1 => (if y1 = 0 then g_X9_weight_43 w rec2 a1 a2 m1 else rf_b (g_X9_total w m1 a2) fun y2 m2 => rf_b (g_min w m2 9 y2) fun y3 m3 => rf_b (g_max w m3 1 y3) fun y4 m4 => some (y4, m4))))
def g_X9_weight_2 (w : rf_w) : Nat → Int32 → Int32 → rf_m → Option (Int32 × rf_m)
  | 0, _, _, _ => none
  | n + 1, a1, a2, m => g_X9_weight_2_b w (g_X9_weight_2 w n) a1 a2 m
def g_X9_weight (w : rf_w) (m : rf_m) (a1 : Int32) : Option (Int32 × rf_m) := g_X9_weight_2 w rf_fuel a1 0 m
theorem s_X9_weight_43 {w : rf_w} {K : rf_K} {r : Int32 × rf_m} (C : rf_Ctx 9 cX9_weight 3 4 (rf_sh w) K) (hE : rf_End (some .int) K (rf_sh w) 0 0 (some (.int r.1)) (rf_MM w r.2)) {rec2 : Int32 → Int32 → rf_m → Option (Int32 × rf_m)} (hr2 : ∀ (a1 : Int32) (a2 : Int32) (m : rf_m), rec2 a1 a2 m = some r → rf_V 3 (rf_sh w) K 0 0 2 ([(0, .ref 13), (1, .int a1), (2, .int a2)], [], rf_MM w m)) (a1 : Int32) (a2 : Int32) (m : rf_m) (hg : g_X9_weight_43 w rec2 a1 a2 m = some r) : rf_V 3 (rf_sh w) K 0 0 43 ([(0, .ref 13), (1, .int a1), (2, .int a2)], [], rf_MM w m) := by
  unfold g_X9_weight_43 at hg
  refine rf_seg C [(.iinc 2 1, 3)] (pc' := 46) (S' := ([(2, .int (a2 + 1)), (0, .ref 13), (1, .int a1)], [], rf_MM w m)) (by decide +kernel) rfl trivial ?_
  refine rf_goto C (-44) 2 (by decide +kernel) ?_
  refine rf_few [1, 2, 0] rfl ?_
  exact hr2 a1 (a2 + 1) m hg
theorem s_X9_weight_2_b {w : rf_w} {K : rf_K} {r : Int32 × rf_m} (C : rf_Ctx 9 cX9_weight 3 4 (rf_sh w) K) (hE : rf_End (some .int) K (rf_sh w) 0 0 (some (.int r.1)) (rf_MM w r.2)) {rec2 : Int32 → Int32 → rf_m → Option (Int32 × rf_m)} (hr2 : ∀ (a1 : Int32) (a2 : Int32) (m : rf_m), rec2 a1 a2 m = some r → rf_V 3 (rf_sh w) K 0 0 2 ([(0, .ref 13), (1, .int a1), (2, .int a2)], [], rf_MM w m)) (a1 : Int32) (a2 : Int32) (m : rf_m) (hg : g_X9_weight_2_b w rec2 a1 a2 m = some r) : rf_V 3 (rf_sh w) K 0 0 2 ([(0, .ref 13), (1, .int a1), (2, .int a2)], [], rf_MM w m) := by
  unfold g_X9_weight_2_b at hg
  refine rf_seg C [(.iload 2, 1), (.aload 0, 1), (.invokeinterface 9 3, 3)] (pc' := 7) (S' := ([(0, .ref 13), (1, .int a1), (2, .int a2)], [.int (m.1 13 3), .int a2], rf_MM w m)) (by decide +kernel) rfl trivial ?_
  refine rf_icmp_ge C 42 49 (by decide +kernel) (fun hc => ?_) (fun hc => ?_)
  · replace hg := (if_pos hc).symm.trans hg
    refine rf_seg C [(.iconst 1, 1)] (pc' := 50) (S' := ([(0, .ref 13), (1, .int a1), (2, .int a2)], [.int 1], rf_MM w m)) (by decide +kernel) rfl trivial ?_
    obtain rfl := Option.some.inj hg
    exact rf_iret C hE (by decide +kernel)
  · replace hg := (if_neg hc).symm.trans hg
    refine rf_seg C [(.aload 0, 1), (.iload 2, 1), (.iconst 2, 1), (.iload 1, 1)] (pc' := 14) (S' := ([(0, .ref 13), (1, .int a1), (2, .int a2)], [.int a1, .int 2, .int a2, .ref 13], rf_MM w m)) (by decide +kernel) rfl trivial ?_
    obtain ⟨y0, m0, hc0, hg⟩ := rf_b_some hg
    refine rf_callv C rf_fit0 j_X9_isDue (ci := 9) (As := [.int a2, .int 2, .int a1]) (rest := []) mw_X9_isDue (c_X9_isDue hc0) (by decide) rfl (by decide) lk_9_81 rfl rfl (Nat.le_of_ble_eq_true rfl) (by decide +kernel) ?_
    show rf_V 3 (rf_sh w) K 0 0 17 ([(0, .ref 13), (1, .int a1), (2, .int a2)], [.int y0], rf_MM w m0)
    refine rf_if_eq C 26 43 (by decide +kernel) (fun hc => ?_) (fun hc => ?_)
    · replace hg := (if_pos hc).symm.trans hg
      refine rf_few [0, 1, 2] rfl ?_
      exact s_X9_weight_43 C hE hr2 a1 a2 m0 hg
    · replace hg := (if_neg hc).symm.trans hg
      refine rf_seg C [(.aload 0, 1), (.iload 2, 1)] (pc' := 22) (S' := ([(0, .ref 13), (1, .int a1), (2, .int a2)], [.int a2, .ref 13], rf_MM w m0)) (by decide +kernel) rfl trivial ?_
      obtain ⟨y1, m1, hc1, hg⟩ := rf_b_some hg
      refine rf_callv C rf_fit0 j_X9_holds (ci := 9) (As := [.int a2]) (rest := []) mw_X9_holds (c_X9_holds hc1) (by decide) rfl (by decide) lk_9_85 rfl rfl (Nat.le_of_ble_eq_true rfl) (by decide +kernel) ?_
      show rf_V 3 (rf_sh w) K 0 0 25 ([(0, .ref 13), (1, .int a1), (2, .int a2)], [.int y1], rf_MM w m1)
      refine rf_if_eq C 18 43 (by decide +kernel) (fun hc => ?_) (fun hc => ?_)
      · replace hg := (if_pos hc).symm.trans hg
        refine rf_few [0, 1, 2] rfl ?_
        exact s_X9_weight_43 C hE hr2 a1 a2 m1 hg
      · replace hg := (if_neg hc).symm.trans hg
        refine rf_seg C [(.iconst 1, 1), (.iconst 9, 2), (.aload 0, 1), (.iload 2, 1)] (pc' := 33) (S' := ([(0, .ref 13), (1, .int a1), (2, .int a2)], [.int a2, .ref 13, .int 9, .int 1], rf_MM w m1)) (by decide +kernel) rfl trivial ?_
        obtain ⟨y2, m2, hc2, hg⟩ := rf_b_some hg
        refine rf_callv C rf_fit0 j_X9_total (ci := 9) (As := [.int a2]) (rest := [.int 9, .int 1]) mw_X9_total (c_X9_total hc2) (by decide) rfl (by decide) lk_9_89 rfl rfl (Nat.le_of_ble_eq_true rfl) (by decide +kernel) ?_
        show rf_V 3 (rf_sh w) K 0 0 36 ([(0, .ref 13), (1, .int a1), (2, .int a2)], [.int y2, .int 9, .int 1], rf_MM w m2)
        obtain ⟨y3, m3, hc3, hg⟩ := rf_b_some hg
        refine rf_calls C rf_fit0 j_min (As := [.int 9, .int y2]) (rest := [.int 1]) mw_min (c_min hc3) (by decide) lk_9_93 rfl rfl (Nat.le_of_ble_eq_true rfl) (by decide +kernel) ?_
        show rf_V 3 (rf_sh w) K 0 0 39 ([(0, .ref 13), (1, .int a1), (2, .int a2)], [.int y3, .int 1], rf_MM w m3)
        obtain ⟨y4, m4, hc4, hg⟩ := rf_b_some hg
        refine rf_calls C rf_fit0 j_max (As := [.int 1, .int y3]) (rest := []) mw_max (c_max hc4) (by decide) lk_9_99 rfl rfl (Nat.le_of_ble_eq_true rfl) (by decide +kernel) ?_
        show rf_V 3 (rf_sh w) K 0 0 42 ([(0, .ref 13), (1, .int a1), (2, .int a2)], [.int y4], rf_MM w m4)
        obtain rfl := Option.some.inj hg
        exact rf_iret C hE (by decide +kernel)
theorem s_X9_weight_2 {w : rf_w} {K : rf_K} {r : Int32 × rf_m} (C : rf_Ctx 9 cX9_weight 3 4 (rf_sh w) K) (hE : rf_End (some .int) K (rf_sh w) 0 0 (some (.int r.1)) (rf_MM w r.2)) (n : Nat) : ∀ (a1 : Int32) (a2 : Int32) (m : rf_m), g_X9_weight_2 w n a1 a2 m = some r → rf_V 3 (rf_sh w) K 0 0 2 ([(0, .ref 13), (1, .int a1), (2, .int a2)], [], rf_MM w m) := by
  induction n with
  | zero => intro a1 a2 m hg; cases hg
  | succ n ih => intro a1 a2 m hg; exact s_X9_weight_2_b C hE ih a1 a2 m hg
theorem c_X9_weight {w : rf_w} {m : rf_m} {a1 : Int32} {r : Int32 × rf_m} (hg : g_X9_weight w m a1 = some r) : rf_Con j_X9_weight 4 (rf_sh w) [.ref 13, .int a1] (rf_MM w m) (some (.int r.1)) (rf_MM w r.2) := by
  refine rf_con j_X9_weight 4 ⟨by decide +kernel, rfl, Nat.le_of_ble_eq_true rfl⟩ (fun K C hE => ?_)
  unfold g_X9_weight at hg
  show rf_V 3 (rf_sh w) K 0 0 0 ([(0, .ref 13), (1, .int a1)], [], rf_MM w m)
  refine rf_seg C [(.iconst 0, 1), (.istore 2, 1)] (pc' := 2) (S' := ([(2, .int 0), (0, .ref 13), (1, .int a1)], [], rf_MM w m)) (by decide +kernel) rfl trivial ?_
  refine rf_few [1, 2, 0] rfl ?_
  exact s_X9_weight_2 C hE rf_fuel a1 0 m hg
-- X3_weightOf
abbrev j_X3_weightOf : rf_J := (3, yX3_weightOf, cX3_weightOf, 3, (some .int))
theorem mw_X3_weightOf : rf_mv j_X3_weightOf (rf_R 3) 2 := ⟨⟨rf_mem 31 (by decide +kernel), rf_mem 31 (by decide +kernel), rf_mem 0 (by decide +kernel), rf_mem 31 (by decide +kernel)⟩, by decide +kernel, by decide⟩
def g_X3_weightOf (w : rf_w) (m : rf_m) (a1 : Int32) (a2 : Int32) : Option (Int32 × rf_m) := rf_bv (g_X3_layOut w m a1) fun m0 => rf_b (g_X9_weight w m0 a2) fun y1 m1 => some (y1, m1)
theorem c_X3_weightOf {w : rf_w} {m : rf_m} {a1 : Int32} {a2 : Int32} {r : Int32 × rf_m} (hg : g_X3_weightOf w m a1 a2 = some r) : rf_Con j_X3_weightOf 5 (rf_sh w) [.ref 26, .int a1, .int a2] (rf_MM w m) (some (.int r.1)) (rf_MM w r.2) := by
  refine rf_con j_X3_weightOf 5 ⟨by decide +kernel, rfl, Nat.le_of_ble_eq_true rfl⟩ (fun K C hE => ?_)
  unfold g_X3_weightOf at hg
  show rf_V 3 (rf_sh w) K 0 0 0 ([(0, .ref 26), (1, .int a1), (2, .int a2)], [], rf_MM w m)
  refine rf_seg C [(.aload 0, 1), (.iload 1, 1)] (pc' := 2) (S' := ([(0, .ref 26), (1, .int a1), (2, .int a2)], [.int a1, .ref 26], rf_MM w m)) (by decide +kernel) rfl trivial ?_
  obtain ⟨m0, hc0, hg⟩ := rf_bv_some hg
  refine rf_callv C rf_fit0 j_X3_layOut (ci := 3) (As := [.int a1]) (rest := []) mw_X3_layOut (c_X3_layOut hc0) (by decide) rfl (by decide) lk_3_128 rfl rfl (Nat.le_of_ble_eq_true rfl) (by decide +kernel) ?_
  show rf_V 3 (rf_sh w) K 0 0 5 ([(0, .ref 26), (1, .int a1), (2, .int a2)], [], rf_MM w m0)
  refine rf_seg C [(.aload 0, 1), (.invokeinterface 3 8, 3), (.iload 2, 1)] (pc' := 10) (S' := ([(0, .ref 26), (1, .int a1), (2, .int a2)], [.int a2, .ref 13], rf_MM w m0)) (by decide +kernel) rfl trivial ?_
  obtain ⟨y1, m1, hc1, hg⟩ := rf_b_some hg
  refine rf_callv C rf_fit0 j_X9_weight (ci := 9) (As := [.int a2]) (rest := []) mw_X9_weight (c_X9_weight hc1) (by decide) rfl (by decide) lk_3_131 rfl rfl (Nat.le_of_ble_eq_true rfl) (by decide +kernel) ?_
  show rf_V 3 (rf_sh w) K 0 0 13 ([(0, .ref 26), (1, .int a1), (2, .int a2)], [.int y1], rf_MM w m1)
  obtain rfl := Option.some.inj hg
  exact rf_iret C hE (by decide +kernel)
-- X0_weigh
abbrev j_X0_weigh : rf_J := (0, yX0_weigh, cX0_weigh, 4, none)
theorem mw_X0_weigh : rf_mv j_X0_weigh (rf_R 0) 1 := ⟨⟨rf_mem 65 (by decide +kernel), rf_mem 65 (by decide +kernel), rf_mem 1 (by decide +kernel), rf_mem 65 (by decide +kernel)⟩, by decide +kernel, by decide⟩
def g_X0_weigh_56 (w : rf_w) (rec2 : Int32 → Int32 → rf_m → Option (rf_m)) (a1 : Int32) (a2 : Int32) (s1 : Int32) (s2 : Int32) (m : rf_m) : Option (rf_m) := rf_g (rf_in s1 80) (rec2 a1 (a2 + 1) (rf_i m 57 (Int32.toNatClampNeg s1) s2))
def g_X0_weigh_35 (w : rf_w) (rec2 : Int32 → Int32 → rf_m → Option (rf_m)) (a1 : Int32) (a2 : Int32) (s0 : Int32) (m : rf_m) : Option (rf_m) := (if s0 ≤ 0 then g_X0_weigh_56 w rec2 a1 a2 a2 2520 m else rf_g (rf_nz s0) (g_X0_weigh_56 w rec2 a1 a2 a2 (2520 / s0) m))
def g_X0_weigh_2_b (w : rf_w) (rec2 : Int32 → Int32 → rf_m → Option (rf_m)) (a1 : Int32) (a2 : Int32) (m : rf_m) : Option (rf_m) := (if (m.1 26 6) ≤ a2 then some m else rf_g (rf_in a2 80) ((if (m.1 56 (Int32.toNatClampNeg a2)) = 0 then g_X0_weigh_35 w rec2 a1 a2 1 m else rf_b (g_X3_weightOf w m a2 a1) fun y1 m1 => g_X0_weigh_35 w rec2 a1 a2 y1 m1)))
def g_X0_weigh_2 (w : rf_w) : Nat → Int32 → Int32 → rf_m → Option (rf_m)
  | 0, _, _, _ => none
  | n + 1, a1, a2, m => g_X0_weigh_2_b w (g_X0_weigh_2 w n) a1 a2 m
def g_X0_weigh (w : rf_w) (m : rf_m) (a1 : Int32) : Option (rf_m) := g_X0_weigh_2 w rf_fuel a1 0 m
theorem s_X0_weigh_56 {w : rf_w} {K : rf_K} {r : rf_m} (C : rf_Ctx 0 cX0_weigh 4 6 (rf_sh w) K) (hE : rf_End none K (rf_sh w) 0 0 none (rf_MM w r)) {rec2 : Int32 → Int32 → rf_m → Option (rf_m)} (hr2 : ∀ (a1 : Int32) (a2 : Int32) (m : rf_m), rec2 a1 a2 m = some r → rf_V 4 (rf_sh w) K 0 0 2 ([(0, .ref 55), (1, .int a1), (2, .int a2)], [], rf_MM w m)) (a1 : Int32) (a2 : Int32) (s1 : Int32) (s2 : Int32) (m : rf_m) (hg : g_X0_weigh_56 w rec2 a1 a2 s1 s2 m = some r) : rf_V 4 (rf_sh w) K 0 0 56 ([(0, .ref 55), (1, .int a1), (2, .int a2)], [.int s2, .int s1, .ref 57], rf_MM w m) := by
  unfold g_X0_weigh_56 at hg
  obtain ⟨q0, hg⟩ := rf_g_some hg
  refine rf_seg C [(.iastore, 1), (.iinc 2 1, 3)] (pc' := 60) (S' := ([(2, .int (a2 + 1)), (0, .ref 55), (1, .int a1)], [], rf_MM w (rf_i m 57 (Int32.toNatClampNeg s1) s2))) (by decide +kernel) rfl (rf_in_of q0) ?_
  refine rf_goto C (-58) 2 (by decide +kernel) ?_
  refine rf_few [1, 2, 0] rfl ?_
  exact hr2 a1 (a2 + 1) (rf_i m 57 (Int32.toNatClampNeg s1) s2) hg
theorem s_X0_weigh_35 {w : rf_w} {K : rf_K} {r : rf_m} (C : rf_Ctx 0 cX0_weigh 4 6 (rf_sh w) K) (hE : rf_End none K (rf_sh w) 0 0 none (rf_MM w r)) {rec2 : Int32 → Int32 → rf_m → Option (rf_m)} (hr2 : ∀ (a1 : Int32) (a2 : Int32) (m : rf_m), rec2 a1 a2 m = some r → rf_V 4 (rf_sh w) K 0 0 2 ([(0, .ref 55), (1, .int a1), (2, .int a2)], [], rf_MM w m)) (a1 : Int32) (a2 : Int32) (s0 : Int32) (m : rf_m) (hg : g_X0_weigh_35 w rec2 a1 a2 s0 m = some r) : rf_V 4 (rf_sh w) K 0 0 35 ([(0, .ref 55), (1, .int a1), (2, .int a2)], [.int s0], rf_MM w m) := by
  unfold g_X0_weigh_35 at hg
  refine rf_seg C [(.istore 3, 1), (.aload 0, 1), (.invokeinterface 0 4, 3), (.iload 2, 1), (.iload 3, 1)] (pc' := 42) (S' := ([(3, .int s0), (0, .ref 55), (1, .int a1), (2, .int a2)], [.int s0, .int a2, .ref 57], rf_MM w m)) (by decide +kernel) rfl trivial ?_
  refine rf_if_le C 11 53 (by decide +kernel) (fun hc => ?_) (fun hc => ?_)
  · replace hg := (if_pos hc).symm.trans hg
    refine rf_seg C [(.iconst 2520, 3)] (pc' := 56) (S' := ([(3, .int s0), (0, .ref 55), (1, .int a1), (2, .int a2)], [.int 2520, .int a2, .ref 57], rf_MM w m)) (by decide +kernel) rfl trivial ?_
    refine rf_few [1, 2, 3] rfl ?_
    exact s_X0_weigh_56 C hE hr2 a1 a2 a2 2520 m hg
  · replace hg := (if_neg hc).symm.trans hg
    obtain ⟨q0, hg⟩ := rf_g_some hg
    refine rf_seg C [(.iconst 2520, 3), (.iload 3, 1), (.idiv, 1)] (pc' := 50) (S' := ([(3, .int s0), (0, .ref 55), (1, .int a1), (2, .int a2)], [.int (2520 / s0), .int a2, .ref 57], rf_MM w m)) (by decide +kernel) rfl (rf_nz_of q0) ?_
    refine rf_goto C 6 56 (by decide +kernel) ?_
    refine rf_few [1, 2, 3] rfl ?_
    exact s_X0_weigh_56 C hE hr2 a1 a2 a2 (2520 / s0) m hg
theorem s_X0_weigh_2_b {w : rf_w} {K : rf_K} {r : rf_m} (C : rf_Ctx 0 cX0_weigh 4 6 (rf_sh w) K) (hE : rf_End none K (rf_sh w) 0 0 none (rf_MM w r)) {rec2 : Int32 → Int32 → rf_m → Option (rf_m)} (hr2 : ∀ (a1 : Int32) (a2 : Int32) (m : rf_m), rec2 a1 a2 m = some r → rf_V 4 (rf_sh w) K 0 0 2 ([(0, .ref 55), (1, .int a1), (2, .int a2)], [], rf_MM w m)) (a1 : Int32) (a2 : Int32) (m : rf_m) (hg : g_X0_weigh_2_b w rec2 a1 a2 m = some r) : rf_V 4 (rf_sh w) K 0 0 2 ([(0, .ref 55), (1, .int a1), (2, .int a2)], [], rf_MM w m) := by
  unfold g_X0_weigh_2_b at hg
  refine rf_seg C [(.iload 2, 1), (.aload 0, 1), (.invokeinterface 0 1, 3), (.invokeinterface 3 6, 3)] (pc' := 10) (S' := ([(0, .ref 55), (1, .int a1), (2, .int a2)], [.int (m.1 26 6), .int a2], rf_MM w m)) (by decide +kernel) rfl trivial ?_
  refine rf_icmp_ge C 53 63 (by decide +kernel) (fun hc => ?_) (fun hc => ?_)
  · replace hg := (if_pos hc).symm.trans hg
    obtain rfl := Option.some.inj hg
    exact rf_vret C hE (by decide +kernel)
  · replace hg := (if_neg hc).symm.trans hg
    obtain ⟨q0, hg⟩ := rf_g_some hg
    refine rf_seg C [(.aload 0, 1), (.invokeinterface 0 3, 3), (.iload 2, 1), (.iaload, 1)] (pc' := 19) (S' := ([(0, .ref 55), (1, .int a1), (2, .int a2)], [.int (m.1 56 (Int32.toNatClampNeg a2))], rf_MM w m)) (by decide +kernel) rfl (rf_in_of q0) ?_
    refine rf_if_ne C 7 26 (by decide +kernel) (fun hc => ?_) (fun hc => ?_)
    · replace hg := (if_neg hc).symm.trans hg
      refine rf_seg C [(.aload 0, 1), (.invokeinterface 0 1, 3), (.iload 2, 1), (.iload 1, 1)] (pc' := 32) (S' := ([(0, .ref 55), (1, .int a1), (2, .int a2)], [.int a1, .int a2, .ref 26], rf_MM w m)) (by decide +kernel) rfl trivial ?_
      obtain ⟨y1, m1, hc1, hg⟩ := rf_b_some hg
      refine rf_callv C rf_fit0 j_X3_weightOf (ci := 3) (As := [.int a2, .int a1]) (rest := []) mw_X3_weightOf (c_X3_weightOf hc1) (by decide) rfl (by decide) lk_0_125 rfl rfl (Nat.le_of_ble_eq_true rfl) (by decide +kernel) ?_
      show rf_V 4 (rf_sh w) K 0 0 35 ([(0, .ref 55), (1, .int a1), (2, .int a2)], [.int y1], rf_MM w m1)
      refine rf_few [0, 1, 2] rfl ?_
      exact s_X0_weigh_35 C hE hr2 a1 a2 y1 m1 hg
    · replace hg := (if_pos hc).symm.trans hg
      refine rf_seg C [(.iconst 1, 1)] (pc' := 23) (S' := ([(0, .ref 55), (1, .int a1), (2, .int a2)], [.int 1], rf_MM w m)) (by decide +kernel) rfl trivial ?_
      refine rf_goto C 12 35 (by decide +kernel) ?_
      refine rf_few [0, 1, 2] rfl ?_
      exact s_X0_weigh_35 C hE hr2 a1 a2 1 m hg
theorem s_X0_weigh_2 {w : rf_w} {K : rf_K} {r : rf_m} (C : rf_Ctx 0 cX0_weigh 4 6 (rf_sh w) K) (hE : rf_End none K (rf_sh w) 0 0 none (rf_MM w r)) (n : Nat) : ∀ (a1 : Int32) (a2 : Int32) (m : rf_m), g_X0_weigh_2 w n a1 a2 m = some r → rf_V 4 (rf_sh w) K 0 0 2 ([(0, .ref 55), (1, .int a1), (2, .int a2)], [], rf_MM w m) := by
  induction n with
  | zero => intro a1 a2 m hg; cases hg
  | succ n ih => intro a1 a2 m hg; exact s_X0_weigh_2_b C hE ih a1 a2 m hg
theorem c_X0_weigh {w : rf_w} {m : rf_m} {a1 : Int32} {r : rf_m} (hg : g_X0_weigh w m a1 = some r) : rf_Con j_X0_weigh 6 (rf_sh w) [.ref 55, .int a1] (rf_MM w m) none (rf_MM w r) := by
  refine rf_con j_X0_weigh 6 ⟨by decide +kernel, rfl, Nat.le_of_ble_eq_true rfl⟩ (fun K C hE => ?_)
  unfold g_X0_weigh at hg
  show rf_V 4 (rf_sh w) K 0 0 0 ([(0, .ref 55), (1, .int a1)], [], rf_MM w m)
  refine rf_seg C [(.iconst 0, 1), (.istore 2, 1)] (pc' := 2) (S' := ([(2, .int 0), (0, .ref 55), (1, .int a1)], [], rf_MM w m)) (by decide +kernel) rfl trivial ?_
  refine rf_few [1, 2, 0] rfl ?_
  exact s_X0_weigh_2 C hE rf_fuel a1 0 m hg
-- X1_copyFrom
abbrev j_X1_copyFrom : rf_J := (1, yX1_copyFrom, cX1_copyFrom, 2, none)
theorem mw_X1_copyFrom : rf_mv j_X1_copyFrom (rf_R 1) 1 := ⟨⟨rf_mem 67 (by decide +kernel), rf_mem 67 (by decide +kernel), rf_mem 5 (by decide +kernel), rf_mem 67 (by decide +kernel)⟩, by decide +kernel, by decide⟩
def g_X1_copyFrom (w : rf_w) (m : rf_m) (a0 : Nat) (a1 : Nat) : Option (rf_m) := rf_g (rf_isO w a0 1) (rf_g (rf_isR w a0 2 (a0 + 1)) (rf_g (rf_isA w (a0 + 1) .long 10) (rf_g (rf_isO w a1 1) (rf_g (rf_isR w a1 2 (a1 + 1)) (rf_g (rf_isA w (a1 + 1) .long 10) (rf_g (rf_01 ((rf_i m a0 0 (m.1 a1 0)).1 a1 1)) (rf_g (rf_cg 0 0 ((rf_i (rf_i m a0 0 (m.1 a1 0)) a0 1 ((rf_i m a0 0 (m.1 a1 0)).1 a1 1)).1 a0 0) 10 10) (some (rf_cl2 (rf_i (rf_i m a0 0 (m.1 a1 0)) a0 1 ((rf_i m a0 0 (m.1 a1 0)).1 a1 1)) (a1 + 1) (a0 + 1) 0 0 ((rf_i (rf_i m a0 0 (m.1 a1 0)) a0 1 ((rf_i m a0 0 (m.1 a1 0)).1 a1 1)).1 a0 0))))))))))
theorem c_X1_copyFrom {w : rf_w} {m : rf_m} {a0 : Nat} {a1 : Nat} {r : rf_m} (hg : g_X1_copyFrom w m a0 a1 = some r) : rf_Con j_X1_copyFrom 1 (rf_sh w) [.ref a0, .ref a1] (rf_MM w m) none (rf_MM w r) := by
  refine rf_con j_X1_copyFrom 1 ⟨by decide +kernel, rfl, Nat.le_of_ble_eq_true rfl⟩ (fun K C hE => ?_)
  unfold g_X1_copyFrom at hg
  show rf_V 2 (rf_sh w) K 0 0 0 ([(0, .ref a0), (1, .ref a1)], [], rf_MM w m)
  obtain ⟨q0, hg⟩ := rf_g_some hg
  obtain ⟨q1, hg⟩ := rf_g_some hg
  obtain ⟨q2, hg⟩ := rf_g_some hg
  obtain ⟨q3, hg⟩ := rf_g_some hg
  obtain ⟨q4, hg⟩ := rf_g_some hg
  obtain ⟨q5, hg⟩ := rf_g_some hg
  refine rf_seg C [(.aload 0, 1), (.aload 1, 1)] (pc' := 2) (S' := ([(0, .ref a0), (1, .ref a1)], [.ref a1, .ref a0], rf_MM w m)) (by decide +kernel) rfl trivial ?_
  refine rf_d_get C 1 0 (rf_isO_of q3) (by decide +kernel) ?_
  show rf_V 2 (rf_sh w) K 0 0 5 ([(0, .ref a0), (1, .ref a1)], [.int (m.1 a1 0), .ref a0], rf_MM w m)
  refine rf_d_put C 1 0 (rf_isO_of q0) rfl (by decide +kernel) ?_
  show rf_V 2 (rf_sh w) K 0 0 8 ([(0, .ref a0), (1, .ref a1)], [], rf_MM w (rf_i m a0 0 (m.1 a1 0)))
  refine rf_seg C [(.aload 0, 1), (.aload 1, 1)] (pc' := 10) (S' := ([(0, .ref a0), (1, .ref a1)], [.ref a1, .ref a0], rf_MM w (rf_i m a0 0 (m.1 a1 0)))) (by decide +kernel) rfl trivial ?_
  refine rf_d_get C 1 1 (rf_isO_of q3) (by decide +kernel) ?_
  show rf_V 2 (rf_sh w) K 0 0 13 ([(0, .ref a0), (1, .ref a1)], [.int ((rf_i m a0 0 (m.1 a1 0)).1 a1 1), .ref a0], rf_MM w (rf_i m a0 0 (m.1 a1 0)))
  obtain ⟨q6, hg⟩ := rf_g_some hg
  refine rf_d_putz C 1 1 (rf_isO_of q0) rfl (rf_01_of q6) (by decide +kernel) ?_
  show rf_V 2 (rf_sh w) K 0 0 16 ([(0, .ref a0), (1, .ref a1)], [], rf_MM w (rf_i (rf_i m a0 0 (m.1 a1 0)) a0 1 ((rf_i m a0 0 (m.1 a1 0)).1 a1 1)))
  refine rf_seg C [(.aload 1, 1)] (pc' := 17) (S' := ([(0, .ref a0), (1, .ref a1)], [.ref a1], rf_MM w (rf_i (rf_i m a0 0 (m.1 a1 0)) a0 1 ((rf_i m a0 0 (m.1 a1 0)).1 a1 1)))) (by decide +kernel) rfl trivial ?_
  refine rf_d_getr C 1 2 (rf_isO_of q3) rfl (rf_isR_of q4) (by decide +kernel) ?_
  show rf_V 2 (rf_sh w) K 0 0 20 ([(0, .ref a0), (1, .ref a1)], [.ref (a1 + 1)], rf_MM w (rf_i (rf_i m a0 0 (m.1 a1 0)) a0 1 ((rf_i m a0 0 (m.1 a1 0)).1 a1 1)))
  refine rf_seg C [(.iconst 0, 1), (.aload 0, 1)] (pc' := 22) (S' := ([(0, .ref a0), (1, .ref a1)], [.ref a0, .int 0, .ref (a1 + 1)], rf_MM w (rf_i (rf_i m a0 0 (m.1 a1 0)) a0 1 ((rf_i m a0 0 (m.1 a1 0)).1 a1 1)))) (by decide +kernel) rfl trivial ?_
  refine rf_d_getr C 1 2 (rf_isO_of q0) rfl (rf_isR_of q1) (by decide +kernel) ?_
  show rf_V 2 (rf_sh w) K 0 0 25 ([(0, .ref a0), (1, .ref a1)], [.ref (a0 + 1), .int 0, .ref (a1 + 1)], rf_MM w (rf_i (rf_i m a0 0 (m.1 a1 0)) a0 1 ((rf_i m a0 0 (m.1 a1 0)).1 a1 1)))
  refine rf_seg C [(.iconst 0, 1), (.aload 0, 1)] (pc' := 27) (S' := ([(0, .ref a0), (1, .ref a1)], [.ref a0, .int 0, .ref (a0 + 1), .int 0, .ref (a1 + 1)], rf_MM w (rf_i (rf_i m a0 0 (m.1 a1 0)) a0 1 ((rf_i m a0 0 (m.1 a1 0)).1 a1 1)))) (by decide +kernel) rfl trivial ?_
  refine rf_d_get C 1 0 (rf_isO_of q0) (by decide +kernel) ?_
  show rf_V 2 (rf_sh w) K 0 0 30 ([(0, .ref a0), (1, .ref a1)], [.int ((rf_i (rf_i m a0 0 (m.1 a1 0)) a0 1 ((rf_i m a0 0 (m.1 a1 0)).1 a1 1)).1 a0 0), .int 0, .ref (a0 + 1), .int 0, .ref (a1 + 1)], rf_MM w (rf_i (rf_i m a0 0 (m.1 a1 0)) a0 1 ((rf_i m a0 0 (m.1 a1 0)).1 a1 1)))
  obtain ⟨q7, hg⟩ := rf_g_some hg
  refine rf_copyl C (by decide) (n0 := 10) (n1 := 10) lk_1_29 (rf_isA_of q5) (rf_isA_of q2) q7 (Nat.le_of_ble_eq_true rfl) (by decide +kernel) ?_
  show rf_V 2 (rf_sh w) K 0 0 33 ([(0, .ref a0), (1, .ref a1)], [], rf_MM w (rf_cl2 (rf_i (rf_i m a0 0 (m.1 a1 0)) a0 1 ((rf_i m a0 0 (m.1 a1 0)).1 a1 1)) (a1 + 1) (a0 + 1) 0 0 ((rf_i (rf_i m a0 0 (m.1 a1 0)) a0 1 ((rf_i m a0 0 (m.1 a1 0)).1 a1 1)).1 a0 0)))
  obtain rfl := Option.some.inj hg
  exact rf_vret C hE (by decide +kernel)
-- X1_settle
abbrev j_X1_settle : rf_J := (1, yX1_settle, cX1_settle, 3, none)
theorem mw_X1_settle : rf_mv j_X1_settle (rf_R 1) 2 := ⟨⟨rf_mem 67 (by decide +kernel), rf_mem 67 (by decide +kernel), rf_mem 5 (by decide +kernel), rf_mem 67 (by decide +kernel)⟩, by decide +kernel, by decide⟩
def g_X1_settle_10_b (w : rf_w) (rec10 : Nat → Int32 → rf_m → Option (rf_m)) (a0 : Nat) (a2 : Int32) (m : rf_m) : Option (rf_m) := rf_g (rf_isO w a0 1) (rf_g (rf_isR w a0 2 (a0 + 1)) (rf_g (rf_isA w (a0 + 1) .long 10) ((if (m.1 a0 0) ≤ 0 then (if a2 = 0 then some (rf_i m a0 1 0) else (if (m.1 a0 0) ≤ 0 then some (rf_i m a0 1 0) else some (rf_i m a0 1 1))) else rf_g (rf_in ((m.1 a0 0) - 1) 10) ((if (lg_cmp (m.2 (a0 + 1) (Int32.toNatClampNeg ((m.1 a0 0) - 1))) 0) = 0 then rec10 a0 a2 (rf_i m a0 0 ((m.1 a0 0) - 1)) else (if a2 = 0 then some (rf_i m a0 1 0) else (if (m.1 a0 0) ≤ 0 then some (rf_i m a0 1 0) else some (rf_i m a0 1 1)))))))))
def g_X1_settle_10 (w : rf_w) : Nat → Nat → Int32 → rf_m → Option (rf_m)
  | 0, _, _, _ => none
  | n + 1, a0, a2, m => g_X1_settle_10_b w (g_X1_settle_10 w n) a0 a2 m
def g_X1_settle (w : rf_w) (m : rf_m) (a0 : Nat) (a1 : Int32) (a2 : Int32) : Option (rf_m) := rf_g (rf_isO w a0 1) (rf_g (rf_isR w a0 2 (a0 + 1)) (rf_g (rf_isA w (a0 + 1) .long 10) (rf_b (g_min w m a1 10) fun y3 m3 => g_X1_settle_10 w rf_fuel a0 a2 (rf_i m3 a0 0 y3))))
theorem s_X1_settle_10_b {w : rf_w} {K : rf_K} {r : rf_m} (C : rf_Ctx 1 cX1_settle 3 2 (rf_sh w) K) (hE : rf_End none K (rf_sh w) 0 0 none (rf_MM w r)) {rec10 : Nat → Int32 → rf_m → Option (rf_m)} (hr10 : ∀ (a0 : Nat) (a2 : Int32) (m : rf_m), rec10 a0 a2 m = some r → rf_V 3 (rf_sh w) K 0 0 10 ([(0, .ref a0), (2, .int a2)], [], rf_MM w m)) (a0 : Nat) (a2 : Int32) (m : rf_m) (hg : g_X1_settle_10_b w rec10 a0 a2 m = some r) : rf_V 3 (rf_sh w) K 0 0 10 ([(0, .ref a0), (2, .int a2)], [], rf_MM w m) := by
  unfold g_X1_settle_10_b at hg
  obtain ⟨q0, hg⟩ := rf_g_some hg
  obtain ⟨q1, hg⟩ := rf_g_some hg
  obtain ⟨q2, hg⟩ := rf_g_some hg
  refine rf_seg C [(.aload 0, 1)] (pc' := 11) (S' := ([(0, .ref a0), (2, .int a2)], [.ref a0], rf_MM w m)) (by decide +kernel) rfl trivial ?_
  refine rf_d_get C 1 0 (rf_isO_of q0) (by decide +kernel) ?_
  show rf_V 3 (rf_sh w) K 0 0 14 ([(0, .ref a0), (2, .int a2)], [.int (m.1 a0 0)], rf_MM w m)
  refine rf_if_le C 32 46 (by decide +kernel) (fun hc => ?_) (fun hc => ?_)
  · replace hg := (if_pos hc).symm.trans hg
    refine rf_seg C [(.aload 0, 1), (.iload 2, 1)] (pc' := 48) (S' := ([(0, .ref a0), (2, .int a2)], [.int a2, .ref a0], rf_MM w m)) (by decide +kernel) rfl trivial ?_
    refine rf_if_eq C 14 62 (by decide +kernel) (fun hc => ?_) (fun hc => ?_)
    · replace hg := (if_pos hc).symm.trans hg
      refine rf_seg C [(.iconst 0, 1)] (pc' := 63) (S' := ([(0, .ref a0), (2, .int a2)], [.int 0, .ref a0], rf_MM w m)) (by decide +kernel) rfl trivial ?_
      refine rf_d_putz C 1 1 (rf_isO_of q0) rfl (by decide) (by decide +kernel) ?_
      show rf_V 3 (rf_sh w) K 0 0 66 ([(0, .ref a0), (2, .int a2)], [], rf_MM w (rf_i m a0 1 0))
      obtain rfl := Option.some.inj hg
      exact rf_vret C hE (by decide +kernel)
    · replace hg := (if_neg hc).symm.trans hg
      refine rf_seg C [(.aload 0, 1)] (pc' := 52) (S' := ([(0, .ref a0), (2, .int a2)], [.ref a0, .ref a0], rf_MM w m)) (by decide +kernel) rfl trivial ?_
      refine rf_d_get C 1 0 (rf_isO_of q0) (by decide +kernel) ?_
      show rf_V 3 (rf_sh w) K 0 0 55 ([(0, .ref a0), (2, .int a2)], [.int (m.1 a0 0), .ref a0], rf_MM w m)
      refine rf_if_le C 7 62 (by decide +kernel) (fun hc => ?_) (fun hc => ?_)
      · replace hg := (if_pos hc).symm.trans hg
        refine rf_seg C [(.iconst 0, 1)] (pc' := 63) (S' := ([(0, .ref a0), (2, .int a2)], [.int 0, .ref a0], rf_MM w m)) (by decide +kernel) rfl trivial ?_
        refine rf_d_putz C 1 1 (rf_isO_of q0) rfl (by decide) (by decide +kernel) ?_
        show rf_V 3 (rf_sh w) K 0 0 66 ([(0, .ref a0), (2, .int a2)], [], rf_MM w (rf_i m a0 1 0))
        obtain rfl := Option.some.inj hg
        exact rf_vret C hE (by decide +kernel)
      · replace hg := (if_neg hc).symm.trans hg
        refine rf_seg C [(.iconst 1, 1)] (pc' := 59) (S' := ([(0, .ref a0), (2, .int a2)], [.int 1, .ref a0], rf_MM w m)) (by decide +kernel) rfl trivial ?_
        refine rf_goto C 4 63 (by decide +kernel) ?_
        refine rf_d_putz C 1 1 (rf_isO_of q0) rfl (by decide) (by decide +kernel) ?_
        show rf_V 3 (rf_sh w) K 0 0 66 ([(0, .ref a0), (2, .int a2)], [], rf_MM w (rf_i m a0 1 1))
        obtain rfl := Option.some.inj hg
        exact rf_vret C hE (by decide +kernel)
  · replace hg := (if_neg hc).symm.trans hg
    refine rf_seg C [(.aload 0, 1)] (pc' := 18) (S' := ([(0, .ref a0), (2, .int a2)], [.ref a0], rf_MM w m)) (by decide +kernel) rfl trivial ?_
    refine rf_d_getr C 1 2 (rf_isO_of q0) rfl (rf_isR_of q1) (by decide +kernel) ?_
    show rf_V 3 (rf_sh w) K 0 0 21 ([(0, .ref a0), (2, .int a2)], [.ref (a0 + 1)], rf_MM w m)
    refine rf_seg C [(.aload 0, 1)] (pc' := 22) (S' := ([(0, .ref a0), (2, .int a2)], [.ref a0, .ref (a0 + 1)], rf_MM w m)) (by decide +kernel) rfl trivial ?_
    refine rf_d_get C 1 0 (rf_isO_of q0) (by decide +kernel) ?_
    show rf_V 3 (rf_sh w) K 0 0 25 ([(0, .ref a0), (2, .int a2)], [.int (m.1 a0 0), .ref (a0 + 1)], rf_MM w m)
    refine rf_seg C [(.iconst 1, 1), (.isub, 1)] (pc' := 27) (S' := ([(0, .ref a0), (2, .int a2)], [.int ((m.1 a0 0) - 1), .ref (a0 + 1)], rf_MM w m)) (by decide +kernel) rfl trivial ?_
    obtain ⟨q3, hg⟩ := rf_g_some hg
    refine rf_d_laload C (rf_isA_of q2) (rf_in_of q3) (by decide +kernel) ?_
    show rf_V 3 (rf_sh w) K 0 0 28 ([(0, .ref a0), (2, .int a2)], [.long (m.2 (a0 + 1) (Int32.toNatClampNeg ((m.1 a0 0) - 1)))], rf_MM w m)
    refine rf_seg C [(.goto_w 0, 1), (.lcmp, 1)] (pc' := 30) (S' := ([(0, .ref a0), (2, .int a2)], [.int (lg_cmp (m.2 (a0 + 1) (Int32.toNatClampNeg ((m.1 a0 0) - 1))) 0)], rf_MM w m)) (by decide +kernel) rfl trivial ?_
    refine rf_if_ne C 16 46 (by decide +kernel) (fun hc => ?_) (fun hc => ?_)
    · replace hg := (if_neg hc).symm.trans hg
      refine rf_seg C [(.aload 0, 1), (.iload 2, 1)] (pc' := 48) (S' := ([(0, .ref a0), (2, .int a2)], [.int a2, .ref a0], rf_MM w m)) (by decide +kernel) rfl trivial ?_
      refine rf_if_eq C 14 62 (by decide +kernel) (fun hc => ?_) (fun hc => ?_)
      · replace hg := (if_pos hc).symm.trans hg
        refine rf_seg C [(.iconst 0, 1)] (pc' := 63) (S' := ([(0, .ref a0), (2, .int a2)], [.int 0, .ref a0], rf_MM w m)) (by decide +kernel) rfl trivial ?_
        refine rf_d_putz C 1 1 (rf_isO_of q0) rfl (by decide) (by decide +kernel) ?_
        show rf_V 3 (rf_sh w) K 0 0 66 ([(0, .ref a0), (2, .int a2)], [], rf_MM w (rf_i m a0 1 0))
        obtain rfl := Option.some.inj hg
        exact rf_vret C hE (by decide +kernel)
      · replace hg := (if_neg hc).symm.trans hg
        refine rf_seg C [(.aload 0, 1)] (pc' := 52) (S' := ([(0, .ref a0), (2, .int a2)], [.ref a0, .ref a0], rf_MM w m)) (by decide +kernel) rfl trivial ?_
        refine rf_d_get C 1 0 (rf_isO_of q0) (by decide +kernel) ?_
        show rf_V 3 (rf_sh w) K 0 0 55 ([(0, .ref a0), (2, .int a2)], [.int (m.1 a0 0), .ref a0], rf_MM w m)
        refine rf_if_le C 7 62 (by decide +kernel) (fun hc => ?_) (fun hc => ?_)
        · replace hg := (if_pos hc).symm.trans hg
          refine rf_seg C [(.iconst 0, 1)] (pc' := 63) (S' := ([(0, .ref a0), (2, .int a2)], [.int 0, .ref a0], rf_MM w m)) (by decide +kernel) rfl trivial ?_
          refine rf_d_putz C 1 1 (rf_isO_of q0) rfl (by decide) (by decide +kernel) ?_
          show rf_V 3 (rf_sh w) K 0 0 66 ([(0, .ref a0), (2, .int a2)], [], rf_MM w (rf_i m a0 1 0))
          obtain rfl := Option.some.inj hg
          exact rf_vret C hE (by decide +kernel)
        · replace hg := (if_neg hc).symm.trans hg
          refine rf_seg C [(.iconst 1, 1)] (pc' := 59) (S' := ([(0, .ref a0), (2, .int a2)], [.int 1, .ref a0], rf_MM w m)) (by decide +kernel) rfl trivial ?_
          refine rf_goto C 4 63 (by decide +kernel) ?_
          refine rf_d_putz C 1 1 (rf_isO_of q0) rfl (by decide) (by decide +kernel) ?_
          show rf_V 3 (rf_sh w) K 0 0 66 ([(0, .ref a0), (2, .int a2)], [], rf_MM w (rf_i m a0 1 1))
          obtain rfl := Option.some.inj hg
          exact rf_vret C hE (by decide +kernel)
    · replace hg := (if_pos hc).symm.trans hg
      refine rf_seg C [(.aload 0, 1), (.dup, 1)] (pc' := 35) (S' := ([(0, .ref a0), (2, .int a2)], [.ref a0, .ref a0], rf_MM w m)) (by decide +kernel) rfl trivial ?_
      refine rf_d_get C 1 0 (rf_isO_of q0) (by decide +kernel) ?_
      show rf_V 3 (rf_sh w) K 0 0 38 ([(0, .ref a0), (2, .int a2)], [.int (m.1 a0 0), .ref a0], rf_MM w m)
      refine rf_seg C [(.iconst 1, 1), (.isub, 1)] (pc' := 40) (S' := ([(0, .ref a0), (2, .int a2)], [.int ((m.1 a0 0) - 1), .ref a0], rf_MM w m)) (by decide +kernel) rfl trivial ?_
      refine rf_d_put C 1 0 (rf_isO_of q0) rfl (by decide +kernel) ?_
      show rf_V 3 (rf_sh w) K 0 0 43 ([(0, .ref a0), (2, .int a2)], [], rf_MM w (rf_i m a0 0 ((m.1 a0 0) - 1)))
      refine rf_goto C (-33) 10 (by decide +kernel) ?_
      refine rf_few [0, 1] rfl ?_
      exact hr10 a0 a2 (rf_i m a0 0 ((m.1 a0 0) - 1)) hg
theorem s_X1_settle_10 {w : rf_w} {K : rf_K} {r : rf_m} (C : rf_Ctx 1 cX1_settle 3 2 (rf_sh w) K) (hE : rf_End none K (rf_sh w) 0 0 none (rf_MM w r)) (n : Nat) : ∀ (a0 : Nat) (a2 : Int32) (m : rf_m), g_X1_settle_10 w n a0 a2 m = some r → rf_V 3 (rf_sh w) K 0 0 10 ([(0, .ref a0), (2, .int a2)], [], rf_MM w m) := by
  induction n with
  | zero => intro a0 a2 m hg; cases hg
  | succ n ih => intro a0 a2 m hg; exact s_X1_settle_10_b C hE ih a0 a2 m hg
theorem c_X1_settle {w : rf_w} {m : rf_m} {a0 : Nat} {a1 : Int32} {a2 : Int32} {r : rf_m} (hg : g_X1_settle w m a0 a1 a2 = some r) : rf_Con j_X1_settle 2 (rf_sh w) [.ref a0, .int a1, .int a2] (rf_MM w m) none (rf_MM w r) := by
  refine rf_con j_X1_settle 2 ⟨by decide +kernel, rfl, Nat.le_of_ble_eq_true rfl⟩ (fun K C hE => ?_)
  unfold g_X1_settle at hg
  show rf_V 3 (rf_sh w) K 0 0 0 ([(0, .ref a0), (1, .int a1), (2, .int a2)], [], rf_MM w m)
  obtain ⟨q0, hg⟩ := rf_g_some hg
  obtain ⟨q1, hg⟩ := rf_g_some hg
  obtain ⟨q2, hg⟩ := rf_g_some hg
  refine rf_seg C [(.aload 0, 1), (.iload 1, 1), (.iconst 10, 2)] (pc' := 4) (S' := ([(0, .ref a0), (1, .int a1), (2, .int a2)], [.int 10, .int a1, .ref a0], rf_MM w m)) (by decide +kernel) rfl trivial ?_
  obtain ⟨y3, m3, hc3, hg⟩ := rf_b_some hg
  refine rf_calls C rf_fit0 j_min (As := [.int a1, .int 10]) (rest := [.ref a0]) mw_min (c_min hc3) (by decide) lk_1_104 rfl rfl (Nat.le_of_ble_eq_true rfl) (by decide +kernel) ?_
  show rf_V 3 (rf_sh w) K 0 0 7 ([(0, .ref a0), (1, .int a1), (2, .int a2)], [.int y3, .ref a0], rf_MM w m3)
  refine rf_d_put C 1 0 (rf_isO_of q0) rfl (by decide +kernel) ?_
  show rf_V 3 (rf_sh w) K 0 0 10 ([(0, .ref a0), (1, .int a1), (2, .int a2)], [], rf_MM w (rf_i m3 a0 0 y3))
  refine rf_few [0, 2] rfl ?_
  exact s_X1_settle_10 C hE rf_fuel a0 a2 (rf_i m3 a0 0 y3) hg
-- J7_fill_d0a16
abbrev j_J7_fill_d0a16 : rf_J := (30, yJ7_fill_d0a16, cJ7_fill_d0a16, 5, none)
theorem mw_J7_fill_d0a16 : rf_ms j_J7_fill_d0a16 2 := ⟨⟨rf_mem 67 (by decide +kernel), rf_mem 26 (by decide +kernel), rf_mem 67 (by decide +kernel)⟩, by decide +kernel, by decide⟩
def g_J7_fill_d0a16_6_b (w : rf_w) (rec6 : Nat → Int64 → Int32 → Int32 → rf_m → Option (rf_m)) (a0 : Nat) (a1 : Int64) (a3 : Int32) (a4 : Int32) (m : rf_m) : Option (rf_m) := rf_g (rf_isA w a0 .long 10) ((if a4 ≤ a3 then some m else rf_g (rf_in a3 10) (rec6 a0 a1 (a3 + 1) a4 (rf_l m a0 (Int32.toNatClampNeg a3) a1))))
def g_J7_fill_d0a16_6 (w : rf_w) : Nat → Nat → Int64 → Int32 → Int32 → rf_m → Option (rf_m)
  | 0, _, _, _, _, _ => none
  | n + 1, a0, a1, a3, a4, m => g_J7_fill_d0a16_6_b w (g_J7_fill_d0a16_6 w n) a0 a1 a3 a4 m
def g_J7_fill_d0a16 (w : rf_w) (m : rf_m) (a0 : Nat) (a1 : Int64) : Option (rf_m) := rf_g (rf_isA w a0 .long 10) (g_J7_fill_d0a16_6 w rf_fuel a0 a1 0 (Int32.ofNat 10) m)
theorem s_J7_fill_d0a16_6_b {w : rf_w} {K : rf_K} {r : rf_m} (C : rf_Ctx 30 cJ7_fill_d0a16 5 1 (rf_sh w) K) (hE : rf_End none K (rf_sh w) 0 0 none (rf_MM w r)) {rec6 : Nat → Int64 → Int32 → Int32 → rf_m → Option (rf_m)} (hr6 : ∀ (a0 : Nat) (a1 : Int64) (a3 : Int32) (a4 : Int32) (m : rf_m), rec6 a0 a1 a3 a4 m = some r → rf_V 5 (rf_sh w) K 0 0 6 ([(0, .ref a0), (1, .long a1), (3, .int a3), (4, .int a4)], [], rf_MM w m)) (a0 : Nat) (a1 : Int64) (a3 : Int32) (a4 : Int32) (m : rf_m) (hg : g_J7_fill_d0a16_6_b w rec6 a0 a1 a3 a4 m = some r) : rf_V 5 (rf_sh w) K 0 0 6 ([(0, .ref a0), (1, .long a1), (3, .int a3), (4, .int a4)], [], rf_MM w m) := by
  unfold g_J7_fill_d0a16_6_b at hg
  obtain ⟨q0, hg⟩ := rf_g_some hg
  refine rf_seg C [(.iload 3, 1), (.iload 4, 2)] (pc' := 9) (S' := ([(0, .ref a0), (1, .long a1), (3, .int a3), (4, .int a4)], [.int a4, .int a3], rf_MM w m)) (by decide +kernel) rfl trivial ?_
  refine rf_icmp_ge C 13 22 (by decide +kernel) (fun hc => ?_) (fun hc => ?_)
  · replace hg := (if_pos hc).symm.trans hg
    obtain rfl := Option.some.inj hg
    exact rf_vret C hE (by decide +kernel)
  · replace hg := (if_neg hc).symm.trans hg
    refine rf_seg C [(.aload 0, 1), (.iload 3, 1), (.lload 1, 1)] (pc' := 15) (S' := ([(0, .ref a0), (1, .long a1), (3, .int a3), (4, .int a4)], [.long a1, .int a3, .ref a0], rf_MM w m)) (by decide +kernel) rfl trivial ?_
    obtain ⟨q1, hg⟩ := rf_g_some hg
    refine rf_d_lastore C (rf_isA_of q0) (rf_in_of q1) (by decide +kernel) ?_
    show rf_V 5 (rf_sh w) K 0 0 16 ([(0, .ref a0), (1, .long a1), (3, .int a3), (4, .int a4)], [], rf_MM w (rf_l m a0 (Int32.toNatClampNeg a3) a1))
    refine rf_seg C [(.iinc 3 1, 3)] (pc' := 19) (S' := ([(3, .int (a3 + 1)), (0, .ref a0), (1, .long a1), (4, .int a4)], [], rf_MM w (rf_l m a0 (Int32.toNatClampNeg a3) a1))) (by decide +kernel) rfl trivial ?_
    refine rf_goto C (-13) 6 (by decide +kernel) ?_
    refine rf_few [1, 2, 0, 3] rfl ?_
    exact hr6 a0 a1 (a3 + 1) a4 (rf_l m a0 (Int32.toNatClampNeg a3) a1) hg
theorem s_J7_fill_d0a16_6 {w : rf_w} {K : rf_K} {r : rf_m} (C : rf_Ctx 30 cJ7_fill_d0a16 5 1 (rf_sh w) K) (hE : rf_End none K (rf_sh w) 0 0 none (rf_MM w r)) (n : Nat) : ∀ (a0 : Nat) (a1 : Int64) (a3 : Int32) (a4 : Int32) (m : rf_m), g_J7_fill_d0a16_6 w n a0 a1 a3 a4 m = some r → rf_V 5 (rf_sh w) K 0 0 6 ([(0, .ref a0), (1, .long a1), (3, .int a3), (4, .int a4)], [], rf_MM w m) := by
  induction n with
  | zero => intro a0 a1 a3 a4 m hg; cases hg
  | succ n ih => intro a0 a1 a3 a4 m hg; exact s_J7_fill_d0a16_6_b C hE ih a0 a1 a3 a4 m hg
theorem c_J7_fill_d0a16 {w : rf_w} {m : rf_m} {a0 : Nat} {a1 : Int64} {r : rf_m} (hg : g_J7_fill_d0a16 w m a0 a1 = some r) : rf_Con j_J7_fill_d0a16 1 (rf_sh w) [.ref a0, .long a1] (rf_MM w m) none (rf_MM w r) := by
  refine rf_con j_J7_fill_d0a16 1 ⟨by decide +kernel, rfl, Nat.le_of_ble_eq_true rfl⟩ (fun K C hE => ?_)
  unfold g_J7_fill_d0a16 at hg
  show rf_V 5 (rf_sh w) K 0 0 0 ([(0, .ref a0), (1, .long a1)], [], rf_MM w m)
  obtain ⟨q0, hg⟩ := rf_g_some hg
  refine rf_seg C [(.iconst 0, 1), (.istore 3, 1), (.aload 0, 1)] (pc' := 3) (S' := ([(3, .int 0), (0, .ref a0), (1, .long a1)], [.ref a0], rf_MM w m)) (by decide +kernel) rfl trivial ?_
  refine rf_d_alen C (rf_isA_of q0) (by decide +kernel) ?_
  show rf_V 5 (rf_sh w) K 0 0 4 ([(3, .int 0), (0, .ref a0), (1, .long a1)], [.int (Int32.ofNat 10)], rf_MM w m)
  refine rf_seg C [(.istore 4, 2)] (pc' := 6) (S' := ([(4, .int (Int32.ofNat 10)), (3, .int 0), (0, .ref a0), (1, .long a1)], [], rf_MM w m)) (by decide +kernel) rfl trivial ?_
  refine rf_few [2, 3, 1, 0] rfl ?_
  exact s_J7_fill_d0a16_6 C hE rf_fuel a0 a1 0 (Int32.ofNat 10) m hg
-- X1_setProduct
abbrev j_X1_setProduct : rf_J := (1, yX1_setProduct, cX1_setProduct, 9, none)
theorem mw_X1_setProduct : rf_mv j_X1_setProduct (rf_R 1) 2 := ⟨⟨rf_mem 67 (by decide +kernel), rf_mem 67 (by decide +kernel), rf_mem 5 (by decide +kernel), rf_mem 67 (by decide +kernel)⟩, by decide +kernel, by decide⟩
def g_X1_setProduct_123 (w : rf_w) (rec10 : Nat → Nat → Nat → Int32 → rf_m → Option (rf_m)) (a0 : Nat) (a1 : Nat) (a2 : Nat) (a3 : Int32) (m : rf_m) : Option (rf_m) := rf_g (rf_isO w a0 1) (rf_g (rf_isR w a0 2 (a0 + 1)) (rf_g (rf_isA w (a0 + 1) .long 10) (rf_g (rf_isO w a1 1) (rf_g (rf_isR w a1 2 (a1 + 1)) (rf_g (rf_isA w (a1 + 1) .long 10) (rf_g (rf_isO w a2 1) (rf_g (rf_isR w a2 2 (a2 + 1)) (rf_g (rf_isA w (a2 + 1) .long 10) (rec10 a0 a1 a2 (a3 + 1) m)))))))))
def g_X1_setProduct_99 (w : rf_w) (rec10 : Nat → Nat → Nat → Int32 → rf_m → Option (rf_m)) (a0 : Nat) (a1 : Nat) (a2 : Nat) (a3 : Int32) (a4 : Int64) (m : rf_m) : Option (rf_m) := rf_g (rf_isO w a0 1) (rf_g (rf_isR w a0 2 (a0 + 1)) (rf_g (rf_isA w (a0 + 1) .long 10) (rf_g (rf_isO w a1 1) (rf_g (rf_isR w a1 2 (a1 + 1)) (rf_g (rf_isA w (a1 + 1) .long 10) (rf_g (rf_isO w a2 1) (rf_g (rf_isR w a2 2 (a2 + 1)) (rf_g (rf_isA w (a2 + 1) .long 10) ((if 10 ≤ (a3 + (m.1 a2 0)) then g_X1_setProduct_123 w rec10 a0 a1 a2 a3 m else rf_g (rf_in (a3 + (m.1 a2 0)) 10) (g_X1_setProduct_123 w rec10 a0 a1 a2 a3 (rf_l m (a0 + 1) (Int32.toNatClampNeg (a3 + (m.1 a2 0))) a4))))))))))))
def g_X1_setProduct_24_b (w : rf_w) (rec10 : Nat → Nat → Nat → Int32 → rf_m → Option (rf_m)) (rec24 : Nat → Nat → Nat → Int32 → Int64 → Int32 → rf_m → Option (rf_m)) (a0 : Nat) (a1 : Nat) (a2 : Nat) (a3 : Int32) (a4 : Int64) (a6 : Int32) (m : rf_m) : Option (rf_m) := rf_g (rf_isO w a0 1) (rf_g (rf_isR w a0 2 (a0 + 1)) (rf_g (rf_isA w (a0 + 1) .long 10) (rf_g (rf_isO w a1 1) (rf_g (rf_isR w a1 2 (a1 + 1)) (rf_g (rf_isA w (a1 + 1) .long 10) (rf_g (rf_isO w a2 1) (rf_g (rf_isR w a2 2 (a2 + 1)) (rf_g (rf_isA w (a2 + 1) .long 10) ((if (m.1 a2 0) ≤ a6 then g_X1_setProduct_99 w rec10 a0 a1 a2 a3 a4 m else (if 10 ≤ (a3 + a6) then g_X1_setProduct_99 w rec10 a0 a1 a2 a3 a4 m else rf_g (rf_in (a3 + a6) 10) (rf_g (rf_in a3 10) (rf_g (rf_in a6 10) (rf_vl (((m.2 (a0 + 1) (Int32.toNatClampNeg (a3 + a6))) + ((m.2 (a1 + 1) (Int32.toNatClampNeg a3)) * (m.2 (a2 + 1) (Int32.toNatClampNeg a6)))) + a4) fun x12 => rf_g (rf_in (a3 + a6) 10) (rf_vl (x12 >>> (Int32.toInt64 30 &&& 63)) fun x14 => rec24 a0 a1 a2 a3 x14 (a6 + 1) (rf_l m (a0 + 1) (Int32.toNatClampNeg (a3 + a6)) (x12 &&& 1073741823)))))))))))))))))
def g_X1_setProduct_24 (w : rf_w) (rec10 : Nat → Nat → Nat → Int32 → rf_m → Option (rf_m)) : Nat → Nat → Nat → Nat → Int32 → Int64 → Int32 → rf_m → Option (rf_m)
  | 0, _, _, _, _, _, _, _ => none
  | n + 1, a0, a1, a2, a3, a4, a6, m => g_X1_setProduct_24_b w rec10 (g_X1_setProduct_24 w rec10 n) a0 a1 a2 a3 a4 a6 m
def g_X1_setProduct_10_b (w : rf_w) (rec10 : Nat → Nat → Nat → Int32 → rf_m → Option (rf_m)) (a0 : Nat) (a1 : Nat) (a2 : Nat) (a3 : Int32) (m : rf_m) : Option (rf_m) := rf_g (rf_isO w a0 1) (rf_g (rf_isR w a0 2 (a0 + 1)) (rf_g (rf_isA w (a0 + 1) .long 10) (rf_g (rf_isO w a1 1) (rf_g (rf_isR w a1 2 (a1 + 1)) (rf_g (rf_isA w (a1 + 1) .long 10) (rf_g (rf_isO w a2 1) (rf_g (rf_isR w a2 2 (a2 + 1)) (rf_g (rf_isA w (a2 + 1) .long 10) ((if (m.1 a1 0) ≤ a3 then (if (m.1 a1 1) = (m.1 a2 1) then rf_bv (g_X1_settle w m a0 ((m.1 a1 0) + (m.1 a2 0)) 0) fun m9 => some m9 else rf_bv (g_X1_settle w m a0 ((m.1 a1 0) + (m.1 a2 0)) 1) fun m10 => some m10) else g_X1_setProduct_24 w rec10 rf_fuel a0 a1 a2 a3 0 0 m))))))))))
def g_X1_setProduct_10 (w : rf_w) : Nat → Nat → Nat → Nat → Int32 → rf_m → Option (rf_m)
  | 0, _, _, _, _, _ => none
  | n + 1, a0, a1, a2, a3, m => g_X1_setProduct_10_b w (g_X1_setProduct_10 w n) a0 a1 a2 a3 m
def g_X1_setProduct (w : rf_w) (m : rf_m) (a0 : Nat) (a1 : Nat) (a2 : Nat) : Option (rf_m) := rf_g (rf_isO w a0 1) (rf_g (rf_isR w a0 2 (a0 + 1)) (rf_g (rf_isA w (a0 + 1) .long 10) (rf_g (rf_isO w a1 1) (rf_g (rf_isR w a1 2 (a1 + 1)) (rf_g (rf_isA w (a1 + 1) .long 10) (rf_g (rf_isO w a2 1) (rf_g (rf_isR w a2 2 (a2 + 1)) (rf_g (rf_isA w (a2 + 1) .long 10) (rf_bv (g_J7_fill_d0a16 w m (a0 + 1) 0) fun m9 => g_X1_setProduct_10 w rf_fuel a0 a1 a2 0 m9)))))))))
theorem s_X1_setProduct_123 {w : rf_w} {K : rf_K} {r : rf_m} (C : rf_Ctx 1 cX1_setProduct 9 3 (rf_sh w) K) (hE : rf_End none K (rf_sh w) 0 0 none (rf_MM w r)) {rec10 : Nat → Nat → Nat → Int32 → rf_m → Option (rf_m)} (hr10 : ∀ (a0 : Nat) (a1 : Nat) (a2 : Nat) (a3 : Int32) (m : rf_m), rec10 a0 a1 a2 a3 m = some r → rf_V 9 (rf_sh w) K 0 0 10 ([(0, .ref a0), (1, .ref a1), (2, .ref a2), (3, .int a3)], [], rf_MM w m)) (a0 : Nat) (a1 : Nat) (a2 : Nat) (a3 : Int32) (m : rf_m) (hg : g_X1_setProduct_123 w rec10 a0 a1 a2 a3 m = some r) : rf_V 9 (rf_sh w) K 0 0 123 ([(0, .ref a0), (1, .ref a1), (2, .ref a2), (3, .int a3)], [], rf_MM w m) := by
  unfold g_X1_setProduct_123 at hg
  obtain ⟨q0, hg⟩ := rf_g_some hg
  obtain ⟨q1, hg⟩ := rf_g_some hg
  obtain ⟨q2, hg⟩ := rf_g_some hg
  obtain ⟨q3, hg⟩ := rf_g_some hg
  obtain ⟨q4, hg⟩ := rf_g_some hg
  obtain ⟨q5, hg⟩ := rf_g_some hg
  obtain ⟨q6, hg⟩ := rf_g_some hg
  obtain ⟨q7, hg⟩ := rf_g_some hg
  obtain ⟨q8, hg⟩ := rf_g_some hg
  refine rf_seg C [(.iinc 3 1, 3)] (pc' := 126) (S' := ([(3, .int (a3 + 1)), (0, .ref a0), (1, .ref a1), (2, .ref a2)], [], rf_MM w m)) (by decide +kernel) rfl trivial ?_
  refine rf_goto C (-116) 10 (by decide +kernel) ?_
  refine rf_few [1, 2, 3, 0] rfl ?_
  exact hr10 a0 a1 a2 (a3 + 1) m hg
theorem s_X1_setProduct_99 {w : rf_w} {K : rf_K} {r : rf_m} (C : rf_Ctx 1 cX1_setProduct 9 3 (rf_sh w) K) (hE : rf_End none K (rf_sh w) 0 0 none (rf_MM w r)) {rec10 : Nat → Nat → Nat → Int32 → rf_m → Option (rf_m)} (hr10 : ∀ (a0 : Nat) (a1 : Nat) (a2 : Nat) (a3 : Int32) (m : rf_m), rec10 a0 a1 a2 a3 m = some r → rf_V 9 (rf_sh w) K 0 0 10 ([(0, .ref a0), (1, .ref a1), (2, .ref a2), (3, .int a3)], [], rf_MM w m)) (a0 : Nat) (a1 : Nat) (a2 : Nat) (a3 : Int32) (a4 : Int64) (m : rf_m) (hg : g_X1_setProduct_99 w rec10 a0 a1 a2 a3 a4 m = some r) : rf_V 9 (rf_sh w) K 0 0 99 ([(0, .ref a0), (1, .ref a1), (2, .ref a2), (3, .int a3), (4, .long a4)], [], rf_MM w m) := by
  unfold g_X1_setProduct_99 at hg
  obtain ⟨q0, hg⟩ := rf_g_some hg
  obtain ⟨q1, hg⟩ := rf_g_some hg
  obtain ⟨q2, hg⟩ := rf_g_some hg
  obtain ⟨q3, hg⟩ := rf_g_some hg
  obtain ⟨q4, hg⟩ := rf_g_some hg
  obtain ⟨q5, hg⟩ := rf_g_some hg
  obtain ⟨q6, hg⟩ := rf_g_some hg
  obtain ⟨q7, hg⟩ := rf_g_some hg
  obtain ⟨q8, hg⟩ := rf_g_some hg
  refine rf_seg C [(.iload 3, 1), (.aload 2, 1)] (pc' := 101) (S' := ([(0, .ref a0), (1, .ref a1), (2, .ref a2), (3, .int a3), (4, .long a4)], [.ref a2, .int a3], rf_MM w m)) (by decide +kernel) rfl trivial ?_
  refine rf_d_get C 1 0 (rf_isO_of q6) (by decide +kernel) ?_
  show rf_V 9 (rf_sh w) K 0 0 104 ([(0, .ref a0), (1, .ref a1), (2, .ref a2), (3, .int a3), (4, .long a4)], [.int (m.1 a2 0), .int a3], rf_MM w m)
  refine rf_seg C [(.iadd, 1), (.iconst 10, 2)] (pc' := 107) (S' := ([(0, .ref a0), (1, .ref a1), (2, .ref a2), (3, .int a3), (4, .long a4)], [.int 10, .int (a3 + (m.1 a2 0))], rf_MM w m)) (by decide +kernel) rfl trivial ?_
  refine rf_icmp_ge C 16 123 (by decide +kernel) (fun hc => ?_) (fun hc => ?_)
  · replace hg := (if_pos hc).symm.trans hg
    refine rf_few [0, 1, 2, 3] rfl ?_
    exact s_X1_setProduct_123 C hE hr10 a0 a1 a2 a3 m hg
  · replace hg := (if_neg hc).symm.trans hg
    refine rf_seg C [(.aload 0, 1)] (pc' := 111) (S' := ([(0, .ref a0), (1, .ref a1), (2, .ref a2), (3, .int a3), (4, .long a4)], [.ref a0], rf_MM w m)) (by decide +kernel) rfl trivial ?_
    refine rf_d_getr C 1 2 (rf_isO_of q0) rfl (rf_isR_of q1) (by decide +kernel) ?_
    show rf_V 9 (rf_sh w) K 0 0 114 ([(0, .ref a0), (1, .ref a1), (2, .ref a2), (3, .int a3), (4, .long a4)], [.ref (a0 + 1)], rf_MM w m)
    refine rf_seg C [(.iload 3, 1), (.aload 2, 1)] (pc' := 116) (S' := ([(0, .ref a0), (1, .ref a1), (2, .ref a2), (3, .int a3), (4, .long a4)], [.ref a2, .int a3, .ref (a0 + 1)], rf_MM w m)) (by decide +kernel) rfl trivial ?_
    refine rf_d_get C 1 0 (rf_isO_of q6) (by decide +kernel) ?_
    show rf_V 9 (rf_sh w) K 0 0 119 ([(0, .ref a0), (1, .ref a1), (2, .ref a2), (3, .int a3), (4, .long a4)], [.int (m.1 a2 0), .int a3, .ref (a0 + 1)], rf_MM w m)
    refine rf_seg C [(.iadd, 1), (.lload 4, 2)] (pc' := 122) (S' := ([(0, .ref a0), (1, .ref a1), (2, .ref a2), (3, .int a3), (4, .long a4)], [.long a4, .int (a3 + (m.1 a2 0)), .ref (a0 + 1)], rf_MM w m)) (by decide +kernel) rfl trivial ?_
    obtain ⟨q9, hg⟩ := rf_g_some hg
    refine rf_d_lastore C (rf_isA_of q2) (rf_in_of q9) (by decide +kernel) ?_
    show rf_V 9 (rf_sh w) K 0 0 123 ([(0, .ref a0), (1, .ref a1), (2, .ref a2), (3, .int a3), (4, .long a4)], [], rf_MM w (rf_l m (a0 + 1) (Int32.toNatClampNeg (a3 + (m.1 a2 0))) a4))
    refine rf_few [0, 1, 2, 3] rfl ?_
    exact s_X1_setProduct_123 C hE hr10 a0 a1 a2 a3 (rf_l m (a0 + 1) (Int32.toNatClampNeg (a3 + (m.1 a2 0))) a4) hg
theorem s_X1_setProduct_24_b {w : rf_w} {K : rf_K} {r : rf_m} (C : rf_Ctx 1 cX1_setProduct 9 3 (rf_sh w) K) (hE : rf_End none K (rf_sh w) 0 0 none (rf_MM w r)) {rec10 : Nat → Nat → Nat → Int32 → rf_m → Option (rf_m)} {rec24 : Nat → Nat → Nat → Int32 → Int64 → Int32 → rf_m → Option (rf_m)} (hr10 : ∀ (a0 : Nat) (a1 : Nat) (a2 : Nat) (a3 : Int32) (m : rf_m), rec10 a0 a1 a2 a3 m = some r → rf_V 9 (rf_sh w) K 0 0 10 ([(0, .ref a0), (1, .ref a1), (2, .ref a2), (3, .int a3)], [], rf_MM w m)) (hr24 : ∀ (a0 : Nat) (a1 : Nat) (a2 : Nat) (a3 : Int32) (a4 : Int64) (a6 : Int32) (m : rf_m), rec24 a0 a1 a2 a3 a4 a6 m = some r → rf_V 9 (rf_sh w) K 0 0 24 ([(0, .ref a0), (1, .ref a1), (2, .ref a2), (3, .int a3), (4, .long a4), (6, .int a6)], [], rf_MM w m)) (a0 : Nat) (a1 : Nat) (a2 : Nat) (a3 : Int32) (a4 : Int64) (a6 : Int32) (m : rf_m) (hg : g_X1_setProduct_24_b w rec10 rec24 a0 a1 a2 a3 a4 a6 m = some r) : rf_V 9 (rf_sh w) K 0 0 24 ([(0, .ref a0), (1, .ref a1), (2, .ref a2), (3, .int a3), (4, .long a4), (6, .int a6)], [], rf_MM w m) := by
  unfold g_X1_setProduct_24_b at hg
  obtain ⟨q0, hg⟩ := rf_g_some hg
  obtain ⟨q1, hg⟩ := rf_g_some hg
  obtain ⟨q2, hg⟩ := rf_g_some hg
  obtain ⟨q3, hg⟩ := rf_g_some hg
  obtain ⟨q4, hg⟩ := rf_g_some hg
  obtain ⟨q5, hg⟩ := rf_g_some hg
  obtain ⟨q6, hg⟩ := rf_g_some hg
  obtain ⟨q7, hg⟩ := rf_g_some hg
  obtain ⟨q8, hg⟩ := rf_g_some hg
  refine rf_seg C [(.iload 6, 2), (.aload 2, 1)] (pc' := 27) (S' := ([(0, .ref a0), (1, .ref a1), (2, .ref a2), (3, .int a3), (4, .long a4), (6, .int a6)], [.ref a2, .int a6], rf_MM w m)) (by decide +kernel) rfl trivial ?_
  refine rf_d_get C 1 0 (rf_isO_of q6) (by decide +kernel) ?_
  show rf_V 9 (rf_sh w) K 0 0 30 ([(0, .ref a0), (1, .ref a1), (2, .ref a2), (3, .int a3), (4, .long a4), (6, .int a6)], [.int (m.1 a2 0), .int a6], rf_MM w m)
  refine rf_icmp_ge C 69 99 (by decide +kernel) (fun hc => ?_) (fun hc => ?_)
  · replace hg := (if_pos hc).symm.trans hg
    refine rf_few [0, 1, 2, 3, 4] rfl ?_
    exact s_X1_setProduct_99 C hE hr10 a0 a1 a2 a3 a4 m hg
  · replace hg := (if_neg hc).symm.trans hg
    refine rf_seg C [(.iload 3, 1), (.iload 6, 2), (.iadd, 1), (.iconst 10, 2)] (pc' := 39) (S' := ([(0, .ref a0), (1, .ref a1), (2, .ref a2), (3, .int a3), (4, .long a4), (6, .int a6)], [.int 10, .int (a3 + a6)], rf_MM w m)) (by decide +kernel) rfl trivial ?_
    refine rf_icmp_ge C 60 99 (by decide +kernel) (fun hc => ?_) (fun hc => ?_)
    · replace hg := (if_pos hc).symm.trans hg
      refine rf_few [0, 1, 2, 3, 4] rfl ?_
      exact s_X1_setProduct_99 C hE hr10 a0 a1 a2 a3 a4 m hg
    · replace hg := (if_neg hc).symm.trans hg
      refine rf_seg C [(.aload 0, 1)] (pc' := 43) (S' := ([(0, .ref a0), (1, .ref a1), (2, .ref a2), (3, .int a3), (4, .long a4), (6, .int a6)], [.ref a0], rf_MM w m)) (by decide +kernel) rfl trivial ?_
      refine rf_d_getr C 1 2 (rf_isO_of q0) rfl (rf_isR_of q1) (by decide +kernel) ?_
      show rf_V 9 (rf_sh w) K 0 0 46 ([(0, .ref a0), (1, .ref a1), (2, .ref a2), (3, .int a3), (4, .long a4), (6, .int a6)], [.ref (a0 + 1)], rf_MM w m)
      refine rf_seg C [(.iload 3, 1), (.iload 6, 2), (.iadd, 1)] (pc' := 50) (S' := ([(0, .ref a0), (1, .ref a1), (2, .ref a2), (3, .int a3), (4, .long a4), (6, .int a6)], [.int (a3 + a6), .ref (a0 + 1)], rf_MM w m)) (by decide +kernel) rfl trivial ?_
      obtain ⟨q9, hg⟩ := rf_g_some hg
      refine rf_d_laload C (rf_isA_of q2) (rf_in_of q9) (by decide +kernel) ?_
      show rf_V 9 (rf_sh w) K 0 0 51 ([(0, .ref a0), (1, .ref a1), (2, .ref a2), (3, .int a3), (4, .long a4), (6, .int a6)], [.long (m.2 (a0 + 1) (Int32.toNatClampNeg (a3 + a6)))], rf_MM w m)
      refine rf_seg C [(.aload 1, 1)] (pc' := 52) (S' := ([(0, .ref a0), (1, .ref a1), (2, .ref a2), (3, .int a3), (4, .long a4), (6, .int a6)], [.ref a1, .long (m.2 (a0 + 1) (Int32.toNatClampNeg (a3 + a6)))], rf_MM w m)) (by decide +kernel) rfl trivial ?_
      refine rf_d_getr C 1 2 (rf_isO_of q3) rfl (rf_isR_of q4) (by decide +kernel) ?_
      show rf_V 9 (rf_sh w) K 0 0 55 ([(0, .ref a0), (1, .ref a1), (2, .ref a2), (3, .int a3), (4, .long a4), (6, .int a6)], [.ref (a1 + 1), .long (m.2 (a0 + 1) (Int32.toNatClampNeg (a3 + a6)))], rf_MM w m)
      refine rf_seg C [(.iload 3, 1)] (pc' := 56) (S' := ([(0, .ref a0), (1, .ref a1), (2, .ref a2), (3, .int a3), (4, .long a4), (6, .int a6)], [.int a3, .ref (a1 + 1), .long (m.2 (a0 + 1) (Int32.toNatClampNeg (a3 + a6)))], rf_MM w m)) (by decide +kernel) rfl trivial ?_
      obtain ⟨q10, hg⟩ := rf_g_some hg
      refine rf_d_laload C (rf_isA_of q5) (rf_in_of q10) (by decide +kernel) ?_
      show rf_V 9 (rf_sh w) K 0 0 57 ([(0, .ref a0), (1, .ref a1), (2, .ref a2), (3, .int a3), (4, .long a4), (6, .int a6)], [.long (m.2 (a1 + 1) (Int32.toNatClampNeg a3)), .long (m.2 (a0 + 1) (Int32.toNatClampNeg (a3 + a6)))], rf_MM w m)
      refine rf_seg C [(.aload 2, 1)] (pc' := 58) (S' := ([(0, .ref a0), (1, .ref a1), (2, .ref a2), (3, .int a3), (4, .long a4), (6, .int a6)], [.ref a2, .long (m.2 (a1 + 1) (Int32.toNatClampNeg a3)), .long (m.2 (a0 + 1) (Int32.toNatClampNeg (a3 + a6)))], rf_MM w m)) (by decide +kernel) rfl trivial ?_
      refine rf_d_getr C 1 2 (rf_isO_of q6) rfl (rf_isR_of q7) (by decide +kernel) ?_
      show rf_V 9 (rf_sh w) K 0 0 61 ([(0, .ref a0), (1, .ref a1), (2, .ref a2), (3, .int a3), (4, .long a4), (6, .int a6)], [.ref (a2 + 1), .long (m.2 (a1 + 1) (Int32.toNatClampNeg a3)), .long (m.2 (a0 + 1) (Int32.toNatClampNeg (a3 + a6)))], rf_MM w m)
      refine rf_seg C [(.iload 6, 2)] (pc' := 63) (S' := ([(0, .ref a0), (1, .ref a1), (2, .ref a2), (3, .int a3), (4, .long a4), (6, .int a6)], [.int a6, .ref (a2 + 1), .long (m.2 (a1 + 1) (Int32.toNatClampNeg a3)), .long (m.2 (a0 + 1) (Int32.toNatClampNeg (a3 + a6)))], rf_MM w m)) (by decide +kernel) rfl trivial ?_
      obtain ⟨q11, hg⟩ := rf_g_some hg
      refine rf_d_laload C (rf_isA_of q8) (rf_in_of q11) (by decide +kernel) ?_
      show rf_V 9 (rf_sh w) K 0 0 64 ([(0, .ref a0), (1, .ref a1), (2, .ref a2), (3, .int a3), (4, .long a4), (6, .int a6)], [.long (m.2 (a2 + 1) (Int32.toNatClampNeg a6)), .long (m.2 (a1 + 1) (Int32.toNatClampNeg a3)), .long (m.2 (a0 + 1) (Int32.toNatClampNeg (a3 + a6)))], rf_MM w m)
      refine rf_seg C [(.lmul, 1), (.ladd, 1), (.lload 4, 2), (.ladd, 1)] (pc' := 69) (S' := ([(0, .ref a0), (1, .ref a1), (2, .ref a2), (3, .int a3), (4, .long a4), (6, .int a6)], [.long (((m.2 (a0 + 1) (Int32.toNatClampNeg (a3 + a6))) + ((m.2 (a1 + 1) (Int32.toNatClampNeg a3)) * (m.2 (a2 + 1) (Int32.toNatClampNeg a6)))) + a4)], rf_MM w m)) (by decide +kernel) rfl trivial ?_
      obtain ⟨x12, hx12, hg⟩ := rf_vl_some hg
      refine rf_vl_top hx12 ?_
      refine rf_seg C [(.lstore 7, 2), (.aload 0, 1)] (pc' := 72) (S' := ([(7, .long x12), (0, .ref a0), (1, .ref a1), (2, .ref a2), (3, .int a3), (4, .long a4), (6, .int a6)], [.ref a0], rf_MM w m)) (by decide +kernel) rfl trivial ?_
      refine rf_d_getr C 1 2 (rf_isO_of q0) rfl (rf_isR_of q1) (by decide +kernel) ?_
      show rf_V 9 (rf_sh w) K 0 0 75 ([(7, .long x12), (0, .ref a0), (1, .ref a1), (2, .ref a2), (3, .int a3), (4, .long a4), (6, .int a6)], [.ref (a0 + 1)], rf_MM w m)
      refine rf_seg C [(.iload 3, 1), (.iload 6, 2), (.iadd, 1), (.lload 7, 2), (.goto_w 1073741823, 3), (.land, 1)] (pc' := 85) (S' := ([(7, .long x12), (0, .ref a0), (1, .ref a1), (2, .ref a2), (3, .int a3), (4, .long a4), (6, .int a6)], [.long (x12 &&& 1073741823), .int (a3 + a6), .ref (a0 + 1)], rf_MM w m)) (by decide +kernel) rfl trivial ?_
      obtain ⟨q13, hg⟩ := rf_g_some hg
      refine rf_d_lastore C (rf_isA_of q2) (rf_in_of q13) (by decide +kernel) ?_
      show rf_V 9 (rf_sh w) K 0 0 86 ([(7, .long x12), (0, .ref a0), (1, .ref a1), (2, .ref a2), (3, .int a3), (4, .long a4), (6, .int a6)], [], rf_MM w (rf_l m (a0 + 1) (Int32.toNatClampNeg (a3 + a6)) (x12 &&& 1073741823)))
      refine rf_seg C [(.lload 7, 2), (.iconst 30, 2), (.lshr, 1)] (pc' := 91) (S' := ([(7, .long x12), (0, .ref a0), (1, .ref a1), (2, .ref a2), (3, .int a3), (4, .long a4), (6, .int a6)], [.long (x12 >>> (Int32.toInt64 30 &&& 63))], rf_MM w (rf_l m (a0 + 1) (Int32.toNatClampNeg (a3 + a6)) (x12 &&& 1073741823)))) (by decide +kernel) rfl trivial ?_
      obtain ⟨x14, hx14, hg⟩ := rf_vl_some hg
      refine rf_vl_top hx14 ?_
      refine rf_seg C [(.lstore 4, 2), (.iinc 6 1, 3)] (pc' := 96) (S' := ([(6, .int (a6 + 1)), (4, .long x14), (7, .long x12), (0, .ref a0), (1, .ref a1), (2, .ref a2), (3, .int a3)], [], rf_MM w (rf_l m (a0 + 1) (Int32.toNatClampNeg (a3 + a6)) (x12 &&& 1073741823)))) (by decide +kernel) rfl trivial ?_
      refine rf_goto C (-72) 24 (by decide +kernel) ?_
      refine rf_few [3, 4, 5, 6, 1, 0] rfl ?_
      exact hr24 a0 a1 a2 a3 x14 (a6 + 1) (rf_l m (a0 + 1) (Int32.toNatClampNeg (a3 + a6)) (x12 &&& 1073741823)) hg
theorem s_X1_setProduct_24 {w : rf_w} {K : rf_K} {r : rf_m} (C : rf_Ctx 1 cX1_setProduct 9 3 (rf_sh w) K) (hE : rf_End none K (rf_sh w) 0 0 none (rf_MM w r)) {rec10 : Nat → Nat → Nat → Int32 → rf_m → Option (rf_m)} (hr10 : ∀ (a0 : Nat) (a1 : Nat) (a2 : Nat) (a3 : Int32) (m : rf_m), rec10 a0 a1 a2 a3 m = some r → rf_V 9 (rf_sh w) K 0 0 10 ([(0, .ref a0), (1, .ref a1), (2, .ref a2), (3, .int a3)], [], rf_MM w m)) (n : Nat) : ∀ (a0 : Nat) (a1 : Nat) (a2 : Nat) (a3 : Int32) (a4 : Int64) (a6 : Int32) (m : rf_m), g_X1_setProduct_24 w rec10 n a0 a1 a2 a3 a4 a6 m = some r → rf_V 9 (rf_sh w) K 0 0 24 ([(0, .ref a0), (1, .ref a1), (2, .ref a2), (3, .int a3), (4, .long a4), (6, .int a6)], [], rf_MM w m) := by
  induction n with
  | zero => intro a0 a1 a2 a3 a4 a6 m hg; cases hg
  | succ n ih => intro a0 a1 a2 a3 a4 a6 m hg; exact s_X1_setProduct_24_b C hE hr10 ih a0 a1 a2 a3 a4 a6 m hg
theorem s_X1_setProduct_10_b {w : rf_w} {K : rf_K} {r : rf_m} (C : rf_Ctx 1 cX1_setProduct 9 3 (rf_sh w) K) (hE : rf_End none K (rf_sh w) 0 0 none (rf_MM w r)) {rec10 : Nat → Nat → Nat → Int32 → rf_m → Option (rf_m)} (hr10 : ∀ (a0 : Nat) (a1 : Nat) (a2 : Nat) (a3 : Int32) (m : rf_m), rec10 a0 a1 a2 a3 m = some r → rf_V 9 (rf_sh w) K 0 0 10 ([(0, .ref a0), (1, .ref a1), (2, .ref a2), (3, .int a3)], [], rf_MM w m)) (a0 : Nat) (a1 : Nat) (a2 : Nat) (a3 : Int32) (m : rf_m) (hg : g_X1_setProduct_10_b w rec10 a0 a1 a2 a3 m = some r) : rf_V 9 (rf_sh w) K 0 0 10 ([(0, .ref a0), (1, .ref a1), (2, .ref a2), (3, .int a3)], [], rf_MM w m) := by
  unfold g_X1_setProduct_10_b at hg
  obtain ⟨q0, hg⟩ := rf_g_some hg
  obtain ⟨q1, hg⟩ := rf_g_some hg
  obtain ⟨q2, hg⟩ := rf_g_some hg
  obtain ⟨q3, hg⟩ := rf_g_some hg
  obtain ⟨q4, hg⟩ := rf_g_some hg
  obtain ⟨q5, hg⟩ := rf_g_some hg
  obtain ⟨q6, hg⟩ := rf_g_some hg
  obtain ⟨q7, hg⟩ := rf_g_some hg
  obtain ⟨q8, hg⟩ := rf_g_some hg
  refine rf_seg C [(.iload 3, 1), (.aload 1, 1)] (pc' := 12) (S' := ([(0, .ref a0), (1, .ref a1), (2, .ref a2), (3, .int a3)], [.ref a1, .int a3], rf_MM w m)) (by decide +kernel) rfl trivial ?_
  refine rf_d_get C 1 0 (rf_isO_of q3) (by decide +kernel) ?_
  show rf_V 9 (rf_sh w) K 0 0 15 ([(0, .ref a0), (1, .ref a1), (2, .ref a2), (3, .int a3)], [.int (m.1 a1 0), .int a3], rf_MM w m)
  refine rf_icmp_ge C 114 129 (by decide +kernel) (fun hc => ?_) (fun hc => ?_)
  · replace hg := (if_pos hc).symm.trans hg
    refine rf_seg C [(.aload 0, 1), (.aload 1, 1)] (pc' := 131) (S' := ([(0, .ref a0), (1, .ref a1), (2, .ref a2), (3, .int a3)], [.ref a1, .ref a0], rf_MM w m)) (by decide +kernel) rfl trivial ?_
    refine rf_d_get C 1 0 (rf_isO_of q3) (by decide +kernel) ?_
    show rf_V 9 (rf_sh w) K 0 0 134 ([(0, .ref a0), (1, .ref a1), (2, .ref a2), (3, .int a3)], [.int (m.1 a1 0), .ref a0], rf_MM w m)
    refine rf_seg C [(.aload 2, 1)] (pc' := 135) (S' := ([(0, .ref a0), (1, .ref a1), (2, .ref a2), (3, .int a3)], [.ref a2, .int (m.1 a1 0), .ref a0], rf_MM w m)) (by decide +kernel) rfl trivial ?_
    refine rf_d_get C 1 0 (rf_isO_of q6) (by decide +kernel) ?_
    show rf_V 9 (rf_sh w) K 0 0 138 ([(0, .ref a0), (1, .ref a1), (2, .ref a2), (3, .int a3)], [.int (m.1 a2 0), .int (m.1 a1 0), .ref a0], rf_MM w m)
    refine rf_seg C [(.iadd, 1), (.aload 1, 1)] (pc' := 140) (S' := ([(0, .ref a0), (1, .ref a1), (2, .ref a2), (3, .int a3)], [.ref a1, .int ((m.1 a1 0) + (m.1 a2 0)), .ref a0], rf_MM w m)) (by decide +kernel) rfl trivial ?_
    refine rf_d_get C 1 1 (rf_isO_of q3) (by decide +kernel) ?_
    show rf_V 9 (rf_sh w) K 0 0 143 ([(0, .ref a0), (1, .ref a1), (2, .ref a2), (3, .int a3)], [.int (m.1 a1 1), .int ((m.1 a1 0) + (m.1 a2 0)), .ref a0], rf_MM w m)
    refine rf_seg C [(.aload 2, 1)] (pc' := 144) (S' := ([(0, .ref a0), (1, .ref a1), (2, .ref a2), (3, .int a3)], [.ref a2, .int (m.1 a1 1), .int ((m.1 a1 0) + (m.1 a2 0)), .ref a0], rf_MM w m)) (by decide +kernel) rfl trivial ?_
    refine rf_d_get C 1 1 (rf_isO_of q6) (by decide +kernel) ?_
    show rf_V 9 (rf_sh w) K 0 0 147 ([(0, .ref a0), (1, .ref a1), (2, .ref a2), (3, .int a3)], [.int (m.1 a2 1), .int (m.1 a1 1), .int ((m.1 a1 0) + (m.1 a2 0)), .ref a0], rf_MM w m)
    refine rf_icmp_eq C 7 154 (by decide +kernel) (fun hc => ?_) (fun hc => ?_)
    · replace hg := (if_pos hc).symm.trans hg
      refine rf_seg C [(.iconst 0, 1)] (pc' := 155) (S' := ([(0, .ref a0), (1, .ref a1), (2, .ref a2), (3, .int a3)], [.int 0, .int ((m.1 a1 0) + (m.1 a2 0)), .ref a0], rf_MM w m)) (by decide +kernel) rfl trivial ?_
      obtain ⟨m9, hc9, hg⟩ := rf_bv_some hg
      refine rf_callv C rf_fit0 j_X1_settle (ci := 1) (As := [.int ((m.1 a1 0) + (m.1 a2 0)), .int 0]) (rest := []) mw_X1_settle (c_X1_settle hc9) (by decide) (rf_isO_of q0) (by decide) lk_1_43 rfl rfl (Nat.le_of_ble_eq_true rfl) (by decide +kernel) ?_
      show rf_V 9 (rf_sh w) K 0 0 158 ([(0, .ref a0), (1, .ref a1), (2, .ref a2), (3, .int a3)], [], rf_MM w m9)
      obtain rfl := Option.some.inj hg
      exact rf_vret C hE (by decide +kernel)
    · replace hg := (if_neg hc).symm.trans hg
      refine rf_seg C [(.iconst 1, 1)] (pc' := 151) (S' := ([(0, .ref a0), (1, .ref a1), (2, .ref a2), (3, .int a3)], [.int 1, .int ((m.1 a1 0) + (m.1 a2 0)), .ref a0], rf_MM w m)) (by decide +kernel) rfl trivial ?_
      refine rf_goto C 4 155 (by decide +kernel) ?_
      obtain ⟨m10, hc10, hg⟩ := rf_bv_some hg
      refine rf_callv C rf_fit0 j_X1_settle (ci := 1) (As := [.int ((m.1 a1 0) + (m.1 a2 0)), .int 1]) (rest := []) mw_X1_settle (c_X1_settle hc10) (by decide) (rf_isO_of q0) (by decide) lk_1_43 rfl rfl (Nat.le_of_ble_eq_true rfl) (by decide +kernel) ?_
      show rf_V 9 (rf_sh w) K 0 0 158 ([(0, .ref a0), (1, .ref a1), (2, .ref a2), (3, .int a3)], [], rf_MM w m10)
      obtain rfl := Option.some.inj hg
      exact rf_vret C hE (by decide +kernel)
  · replace hg := (if_neg hc).symm.trans hg
    refine rf_seg C [(.goto_w 0, 1), (.lstore 4, 2), (.iconst 0, 1), (.istore 6, 2)] (pc' := 24) (S' := ([(6, .int 0), (4, .long 0), (0, .ref a0), (1, .ref a1), (2, .ref a2), (3, .int a3)], [], rf_MM w m)) (by decide +kernel) rfl trivial ?_
    refine rf_few [2, 3, 4, 5, 1, 0] rfl ?_
    exact s_X1_setProduct_24 C hE hr10 rf_fuel a0 a1 a2 a3 0 0 m hg
theorem s_X1_setProduct_10 {w : rf_w} {K : rf_K} {r : rf_m} (C : rf_Ctx 1 cX1_setProduct 9 3 (rf_sh w) K) (hE : rf_End none K (rf_sh w) 0 0 none (rf_MM w r)) (n : Nat) : ∀ (a0 : Nat) (a1 : Nat) (a2 : Nat) (a3 : Int32) (m : rf_m), g_X1_setProduct_10 w n a0 a1 a2 a3 m = some r → rf_V 9 (rf_sh w) K 0 0 10 ([(0, .ref a0), (1, .ref a1), (2, .ref a2), (3, .int a3)], [], rf_MM w m) := by
  induction n with
  | zero => intro a0 a1 a2 a3 m hg; cases hg
  | succ n ih => intro a0 a1 a2 a3 m hg; exact s_X1_setProduct_10_b C hE ih a0 a1 a2 a3 m hg
theorem c_X1_setProduct {w : rf_w} {m : rf_m} {a0 : Nat} {a1 : Nat} {a2 : Nat} {r : rf_m} (hg : g_X1_setProduct w m a0 a1 a2 = some r) : rf_Con j_X1_setProduct 3 (rf_sh w) [.ref a0, .ref a1, .ref a2] (rf_MM w m) none (rf_MM w r) := by
  refine rf_con j_X1_setProduct 3 ⟨by decide +kernel, rfl, Nat.le_of_ble_eq_true rfl⟩ (fun K C hE => ?_)
  unfold g_X1_setProduct at hg
  show rf_V 9 (rf_sh w) K 0 0 0 ([(0, .ref a0), (1, .ref a1), (2, .ref a2)], [], rf_MM w m)
  obtain ⟨q0, hg⟩ := rf_g_some hg
  obtain ⟨q1, hg⟩ := rf_g_some hg
  obtain ⟨q2, hg⟩ := rf_g_some hg
  obtain ⟨q3, hg⟩ := rf_g_some hg
  obtain ⟨q4, hg⟩ := rf_g_some hg
  obtain ⟨q5, hg⟩ := rf_g_some hg
  obtain ⟨q6, hg⟩ := rf_g_some hg
  obtain ⟨q7, hg⟩ := rf_g_some hg
  obtain ⟨q8, hg⟩ := rf_g_some hg
  refine rf_seg C [(.aload 0, 1)] (pc' := 1) (S' := ([(0, .ref a0), (1, .ref a1), (2, .ref a2)], [.ref a0], rf_MM w m)) (by decide +kernel) rfl trivial ?_
  refine rf_d_getr C 1 2 (rf_isO_of q0) rfl (rf_isR_of q1) (by decide +kernel) ?_
  show rf_V 9 (rf_sh w) K 0 0 4 ([(0, .ref a0), (1, .ref a1), (2, .ref a2)], [.ref (a0 + 1)], rf_MM w m)
  refine rf_seg C [(.goto_w 0, 1)] (pc' := 5) (S' := ([(0, .ref a0), (1, .ref a1), (2, .ref a2)], [.long 0, .ref (a0 + 1)], rf_MM w m)) (by decide +kernel) rfl trivial ?_
  obtain ⟨m9, hc9, hg⟩ := rf_bv_some hg
  refine rf_calls C rf_fit0 j_J7_fill_d0a16 (As := [.ref (a0 + 1), .long 0]) (rest := []) mw_J7_fill_d0a16 (c_J7_fill_d0a16 hc9) (by decide) lk_1_37 rfl rfl (Nat.le_of_ble_eq_true rfl) (by decide +kernel) ?_
  show rf_V 9 (rf_sh w) K 0 0 8 ([(0, .ref a0), (1, .ref a1), (2, .ref a2)], [], rf_MM w m9)
  refine rf_seg C [(.iconst 0, 1), (.istore 3, 1)] (pc' := 10) (S' := ([(3, .int 0), (0, .ref a0), (1, .ref a1), (2, .ref a2)], [], rf_MM w m9)) (by decide +kernel) rfl trivial ?_
  refine rf_few [1, 2, 3, 0] rfl ?_
  exact s_X1_setProduct_10 C hE rf_fuel a0 a1 a2 0 m9 hg
-- X1_compareSize
abbrev j_X1_compareSize : rf_J := (1, yX1_compareSize, cX1_compareSize, 3, (some .int))
theorem mw_X1_compareSize : rf_mv j_X1_compareSize (rf_R 1) 1 := ⟨⟨rf_mem 68 (by decide +kernel), rf_mem 68 (by decide +kernel), rf_mem 5 (by decide +kernel), rf_mem 68 (by decide +kernel)⟩, by decide +kernel, by decide⟩
def g_X1_compareSize_28_b (w : rf_w) (rec28 : Nat → Nat → Int32 → rf_m → Option (Int32 × rf_m)) (a0 : Nat) (a1 : Nat) (a2 : Int32) (m : rf_m) : Option (Int32 × rf_m) := rf_g (rf_isO w a0 1) (rf_g (rf_isR w a0 2 (a0 + 1)) (rf_g (rf_isA w (a0 + 1) .long 10) (rf_g (rf_isO w a1 1) (rf_g (rf_isR w a1 2 (a1 + 1)) (rf_g (rf_isA w (a1 + 1) .long 10) ((if a2 < 0 then some (0, m) else rf_g (rf_in a2 10) (rf_g (rf_in a2 10) ((if (lg_cmp (m.2 (a0 + 1) (Int32.toNatClampNeg a2)) (m.2 (a1 + 1) (Int32.toNatClampNeg a2))) = 0 then rec28 a0 a1 (a2 + (-1)) m else rf_g (rf_in a2 10) (rf_g (rf_in a2 10) ((if (0 : Int32) ≤ (lg_cmp (m.2 (a0 + 1) (Int32.toNatClampNeg a2)) (m.2 (a1 + 1) (Int32.toNatClampNeg a2))) then some (1, m) else some ((-1), m))))))))))))))
def g_X1_compareSize_28 (w : rf_w) : Nat → Nat → Nat → Int32 → rf_m → Option (Int32 × rf_m)
  | 0, _, _, _, _ => none
  | n + 1, a0, a1, a2, m => g_X1_compareSize_28_b w (g_X1_compareSize_28 w n) a0 a1 a2 m
def g_X1_compareSize (w : rf_w) (m : rf_m) (a0 : Nat) (a1 : Nat) : Option (Int32 × rf_m) := rf_g (rf_isO w a0 1) (rf_g (rf_isR w a0 2 (a0 + 1)) (rf_g (rf_isA w (a0 + 1) .long 10) (rf_g (rf_isO w a1 1) (rf_g (rf_isR w a1 2 (a1 + 1)) (rf_g (rf_isA w (a1 + 1) .long 10) ((if (m.1 a0 0) = (m.1 a1 0) then g_X1_compareSize_28 w rf_fuel a0 a1 ((m.1 a0 0) - 1) m else some ((m.1 a0 0) - (m.1 a1 0), m))))))))
theorem s_X1_compareSize_28_b {w : rf_w} {K : rf_K} {r : Int32 × rf_m} (C : rf_Ctx 1 cX1_compareSize 3 1 (rf_sh w) K) (hE : rf_End (some .int) K (rf_sh w) 0 0 (some (.int r.1)) (rf_MM w r.2)) {rec28 : Nat → Nat → Int32 → rf_m → Option (Int32 × rf_m)} (hr28 : ∀ (a0 : Nat) (a1 : Nat) (a2 : Int32) (m : rf_m), rec28 a0 a1 a2 m = some r → rf_V 3 (rf_sh w) K 0 0 28 ([(0, .ref a0), (1, .ref a1), (2, .int a2)], [], rf_MM w m)) (a0 : Nat) (a1 : Nat) (a2 : Int32) (m : rf_m) (hg : g_X1_compareSize_28_b w rec28 a0 a1 a2 m = some r) : rf_V 3 (rf_sh w) K 0 0 28 ([(0, .ref a0), (1, .ref a1), (2, .int a2)], [], rf_MM w m) := by
  unfold g_X1_compareSize_28_b at hg
  obtain ⟨q0, hg⟩ := rf_g_some hg
  obtain ⟨q1, hg⟩ := rf_g_some hg
  obtain ⟨q2, hg⟩ := rf_g_some hg
  obtain ⟨q3, hg⟩ := rf_g_some hg
  obtain ⟨q4, hg⟩ := rf_g_some hg
  obtain ⟨q5, hg⟩ := rf_g_some hg
  refine rf_seg C [(.iload 2, 1)] (pc' := 29) (S' := ([(0, .ref a0), (1, .ref a1), (2, .int a2)], [.int a2], rf_MM w m)) (by decide +kernel) rfl trivial ?_
  refine rf_if_lt C 47 76 (by decide +kernel) (fun hc => ?_) (fun hc => ?_)
  · replace hg := (if_pos hc).symm.trans hg
    refine rf_seg C [(.iconst 0, 1)] (pc' := 77) (S' := ([(0, .ref a0), (1, .ref a1), (2, .int a2)], [.int 0], rf_MM w m)) (by decide +kernel) rfl trivial ?_
    obtain rfl := Option.some.inj hg
    exact rf_iret C hE (by decide +kernel)
  · replace hg := (if_neg hc).symm.trans hg
    refine rf_seg C [(.aload 0, 1)] (pc' := 33) (S' := ([(0, .ref a0), (1, .ref a1), (2, .int a2)], [.ref a0], rf_MM w m)) (by decide +kernel) rfl trivial ?_
    refine rf_d_getr C 1 2 (rf_isO_of q0) rfl (rf_isR_of q1) (by decide +kernel) ?_
    show rf_V 3 (rf_sh w) K 0 0 36 ([(0, .ref a0), (1, .ref a1), (2, .int a2)], [.ref (a0 + 1)], rf_MM w m)
    refine rf_seg C [(.iload 2, 1)] (pc' := 37) (S' := ([(0, .ref a0), (1, .ref a1), (2, .int a2)], [.int a2, .ref (a0 + 1)], rf_MM w m)) (by decide +kernel) rfl trivial ?_
    obtain ⟨q6, hg⟩ := rf_g_some hg
    refine rf_d_laload C (rf_isA_of q2) (rf_in_of q6) (by decide +kernel) ?_
    show rf_V 3 (rf_sh w) K 0 0 38 ([(0, .ref a0), (1, .ref a1), (2, .int a2)], [.long (m.2 (a0 + 1) (Int32.toNatClampNeg a2))], rf_MM w m)
    refine rf_seg C [(.aload 1, 1)] (pc' := 39) (S' := ([(0, .ref a0), (1, .ref a1), (2, .int a2)], [.ref a1, .long (m.2 (a0 + 1) (Int32.toNatClampNeg a2))], rf_MM w m)) (by decide +kernel) rfl trivial ?_
    refine rf_d_getr C 1 2 (rf_isO_of q3) rfl (rf_isR_of q4) (by decide +kernel) ?_
    show rf_V 3 (rf_sh w) K 0 0 42 ([(0, .ref a0), (1, .ref a1), (2, .int a2)], [.ref (a1 + 1), .long (m.2 (a0 + 1) (Int32.toNatClampNeg a2))], rf_MM w m)
    refine rf_seg C [(.iload 2, 1)] (pc' := 43) (S' := ([(0, .ref a0), (1, .ref a1), (2, .int a2)], [.int a2, .ref (a1 + 1), .long (m.2 (a0 + 1) (Int32.toNatClampNeg a2))], rf_MM w m)) (by decide +kernel) rfl trivial ?_
    obtain ⟨q7, hg⟩ := rf_g_some hg
    refine rf_d_laload C (rf_isA_of q5) (rf_in_of q7) (by decide +kernel) ?_
    show rf_V 3 (rf_sh w) K 0 0 44 ([(0, .ref a0), (1, .ref a1), (2, .int a2)], [.long (m.2 (a1 + 1) (Int32.toNatClampNeg a2)), .long (m.2 (a0 + 1) (Int32.toNatClampNeg a2))], rf_MM w m)
    refine rf_seg C [(.lcmp, 1)] (pc' := 45) (S' := ([(0, .ref a0), (1, .ref a1), (2, .int a2)], [.int (lg_cmp (m.2 (a0 + 1) (Int32.toNatClampNeg a2)) (m.2 (a1 + 1) (Int32.toNatClampNeg a2)))], rf_MM w m)) (by decide +kernel) rfl trivial ?_
    refine rf_if_eq C 25 70 (by decide +kernel) (fun hc => ?_) (fun hc => ?_)
    · replace hg := (if_pos hc).symm.trans hg
      refine rf_seg C [(.iinc 2 (-1), 3)] (pc' := 73) (S' := ([(2, .int (a2 + (-1))), (0, .ref a0), (1, .ref a1)], [], rf_MM w m)) (by decide +kernel) rfl trivial ?_
      refine rf_goto C (-45) 28 (by decide +kernel) ?_
      refine rf_few [1, 2, 0] rfl ?_
      exact hr28 a0 a1 (a2 + (-1)) m hg
    · replace hg := (if_neg hc).symm.trans hg
      refine rf_seg C [(.aload 0, 1)] (pc' := 49) (S' := ([(0, .ref a0), (1, .ref a1), (2, .int a2)], [.ref a0], rf_MM w m)) (by decide +kernel) rfl trivial ?_
      refine rf_d_getr C 1 2 (rf_isO_of q0) rfl (rf_isR_of q1) (by decide +kernel) ?_
      show rf_V 3 (rf_sh w) K 0 0 52 ([(0, .ref a0), (1, .ref a1), (2, .int a2)], [.ref (a0 + 1)], rf_MM w m)
      refine rf_seg C [(.iload 2, 1)] (pc' := 53) (S' := ([(0, .ref a0), (1, .ref a1), (2, .int a2)], [.int a2, .ref (a0 + 1)], rf_MM w m)) (by decide +kernel) rfl trivial ?_
      obtain ⟨q8, hg⟩ := rf_g_some hg
      refine rf_d_laload C (rf_isA_of q2) (rf_in_of q8) (by decide +kernel) ?_
      show rf_V 3 (rf_sh w) K 0 0 54 ([(0, .ref a0), (1, .ref a1), (2, .int a2)], [.long (m.2 (a0 + 1) (Int32.toNatClampNeg a2))], rf_MM w m)
      refine rf_seg C [(.aload 1, 1)] (pc' := 55) (S' := ([(0, .ref a0), (1, .ref a1), (2, .int a2)], [.ref a1, .long (m.2 (a0 + 1) (Int32.toNatClampNeg a2))], rf_MM w m)) (by decide +kernel) rfl trivial ?_
      refine rf_d_getr C 1 2 (rf_isO_of q3) rfl (rf_isR_of q4) (by decide +kernel) ?_
      show rf_V 3 (rf_sh w) K 0 0 58 ([(0, .ref a0), (1, .ref a1), (2, .int a2)], [.ref (a1 + 1), .long (m.2 (a0 + 1) (Int32.toNatClampNeg a2))], rf_MM w m)
      refine rf_seg C [(.iload 2, 1)] (pc' := 59) (S' := ([(0, .ref a0), (1, .ref a1), (2, .int a2)], [.int a2, .ref (a1 + 1), .long (m.2 (a0 + 1) (Int32.toNatClampNeg a2))], rf_MM w m)) (by decide +kernel) rfl trivial ?_
      obtain ⟨q9, hg⟩ := rf_g_some hg
      refine rf_d_laload C (rf_isA_of q5) (rf_in_of q9) (by decide +kernel) ?_
      show rf_V 3 (rf_sh w) K 0 0 60 ([(0, .ref a0), (1, .ref a1), (2, .int a2)], [.long (m.2 (a1 + 1) (Int32.toNatClampNeg a2)), .long (m.2 (a0 + 1) (Int32.toNatClampNeg a2))], rf_MM w m)
      refine rf_seg C [(.lcmp, 1)] (pc' := 61) (S' := ([(0, .ref a0), (1, .ref a1), (2, .int a2)], [.int (lg_cmp (m.2 (a0 + 1) (Int32.toNatClampNeg a2)) (m.2 (a1 + 1) (Int32.toNatClampNeg a2)))], rf_MM w m)) (by decide +kernel) rfl trivial ?_
      refine rf_if_ge C 7 68 (by decide +kernel) (fun hc => ?_) (fun hc => ?_)
      · replace hg := (if_pos hc).symm.trans hg
        refine rf_seg C [(.iconst 1, 1)] (pc' := 69) (S' := ([(0, .ref a0), (1, .ref a1), (2, .int a2)], [.int 1], rf_MM w m)) (by decide +kernel) rfl trivial ?_
        obtain rfl := Option.some.inj hg
        exact rf_iret C hE (by decide +kernel)
      · replace hg := (if_neg hc).symm.trans hg
        refine rf_seg C [(.iconst (-1), 1)] (pc' := 65) (S' := ([(0, .ref a0), (1, .ref a1), (2, .int a2)], [.int ((-1))], rf_MM w m)) (by decide +kernel) rfl trivial ?_
        refine rf_goto C 4 69 (by decide +kernel) ?_
        obtain rfl := Option.some.inj hg
        exact rf_iret C hE (by decide +kernel)
theorem s_X1_compareSize_28 {w : rf_w} {K : rf_K} {r : Int32 × rf_m} (C : rf_Ctx 1 cX1_compareSize 3 1 (rf_sh w) K) (hE : rf_End (some .int) K (rf_sh w) 0 0 (some (.int r.1)) (rf_MM w r.2)) (n : Nat) : ∀ (a0 : Nat) (a1 : Nat) (a2 : Int32) (m : rf_m), g_X1_compareSize_28 w n a0 a1 a2 m = some r → rf_V 3 (rf_sh w) K 0 0 28 ([(0, .ref a0), (1, .ref a1), (2, .int a2)], [], rf_MM w m) := by
  induction n with
  | zero => intro a0 a1 a2 m hg; cases hg
  | succ n ih => intro a0 a1 a2 m hg; exact s_X1_compareSize_28_b C hE ih a0 a1 a2 m hg
theorem c_X1_compareSize {w : rf_w} {m : rf_m} {a0 : Nat} {a1 : Nat} {r : Int32 × rf_m} (hg : g_X1_compareSize w m a0 a1 = some r) : rf_Con j_X1_compareSize 1 (rf_sh w) [.ref a0, .ref a1] (rf_MM w m) (some (.int r.1)) (rf_MM w r.2) := by
  refine rf_con j_X1_compareSize 1 ⟨by decide +kernel, rfl, Nat.le_of_ble_eq_true rfl⟩ (fun K C hE => ?_)
  unfold g_X1_compareSize at hg
  show rf_V 3 (rf_sh w) K 0 0 0 ([(0, .ref a0), (1, .ref a1)], [], rf_MM w m)
  obtain ⟨q0, hg⟩ := rf_g_some hg
  obtain ⟨q1, hg⟩ := rf_g_some hg
  obtain ⟨q2, hg⟩ := rf_g_some hg
  obtain ⟨q3, hg⟩ := rf_g_some hg
  obtain ⟨q4, hg⟩ := rf_g_some hg
  obtain ⟨q5, hg⟩ := rf_g_some hg
  refine rf_seg C [(.aload 0, 1)] (pc' := 1) (S' := ([(0, .ref a0), (1, .ref a1)], [.ref a0], rf_MM w m)) (by decide +kernel) rfl trivial ?_
  refine rf_d_get C 1 0 (rf_isO_of q0) (by decide +kernel) ?_
  show rf_V 3 (rf_sh w) K 0 0 4 ([(0, .ref a0), (1, .ref a1)], [.int (m.1 a0 0)], rf_MM w m)
  refine rf_seg C [(.aload 1, 1)] (pc' := 5) (S' := ([(0, .ref a0), (1, .ref a1)], [.ref a1, .int (m.1 a0 0)], rf_MM w m)) (by decide +kernel) rfl trivial ?_
  refine rf_d_get C 1 0 (rf_isO_of q3) (by decide +kernel) ?_
  show rf_V 3 (rf_sh w) K 0 0 8 ([(0, .ref a0), (1, .ref a1)], [.int (m.1 a1 0), .int (m.1 a0 0)], rf_MM w m)
  refine rf_icmp_eq C 13 21 (by decide +kernel) (fun hc => ?_) (fun hc => ?_)
  · replace hg := (if_pos hc).symm.trans hg
    refine rf_seg C [(.aload 0, 1)] (pc' := 22) (S' := ([(0, .ref a0), (1, .ref a1)], [.ref a0], rf_MM w m)) (by decide +kernel) rfl trivial ?_
    refine rf_d_get C 1 0 (rf_isO_of q0) (by decide +kernel) ?_
    show rf_V 3 (rf_sh w) K 0 0 25 ([(0, .ref a0), (1, .ref a1)], [.int (m.1 a0 0)], rf_MM w m)
    refine rf_seg C [(.iconst 1, 1), (.isub, 1), (.istore 2, 1)] (pc' := 28) (S' := ([(2, .int ((m.1 a0 0) - 1)), (0, .ref a0), (1, .ref a1)], [], rf_MM w m)) (by decide +kernel) rfl trivial ?_
    refine rf_few [1, 2, 0] rfl ?_
    exact s_X1_compareSize_28 C hE rf_fuel a0 a1 ((m.1 a0 0) - 1) m hg
  · replace hg := (if_neg hc).symm.trans hg
    refine rf_seg C [(.aload 0, 1)] (pc' := 12) (S' := ([(0, .ref a0), (1, .ref a1)], [.ref a0], rf_MM w m)) (by decide +kernel) rfl trivial ?_
    refine rf_d_get C 1 0 (rf_isO_of q0) (by decide +kernel) ?_
    show rf_V 3 (rf_sh w) K 0 0 15 ([(0, .ref a0), (1, .ref a1)], [.int (m.1 a0 0)], rf_MM w m)
    refine rf_seg C [(.aload 1, 1)] (pc' := 16) (S' := ([(0, .ref a0), (1, .ref a1)], [.ref a1, .int (m.1 a0 0)], rf_MM w m)) (by decide +kernel) rfl trivial ?_
    refine rf_d_get C 1 0 (rf_isO_of q3) (by decide +kernel) ?_
    show rf_V 3 (rf_sh w) K 0 0 19 ([(0, .ref a0), (1, .ref a1)], [.int (m.1 a1 0), .int (m.1 a0 0)], rf_MM w m)
    refine rf_seg C [(.isub, 1)] (pc' := 20) (S' := ([(0, .ref a0), (1, .ref a1)], [.int ((m.1 a0 0) - (m.1 a1 0))], rf_MM w m)) (by decide +kernel) rfl trivial ?_
    obtain rfl := Option.some.inj hg
    exact rf_iret C hE (by decide +kernel)
-- X1_setDifference
abbrev j_X1_setDifference : rf_J := (1, yX1_setDifference, cX1_setDifference, 10, none)
theorem mw_X1_setDifference : rf_mv j_X1_setDifference (rf_R 1) 3 := ⟨⟨rf_mem 68 (by decide +kernel), rf_mem 68 (by decide +kernel), rf_mem 5 (by decide +kernel), rf_mem 68 (by decide +kernel)⟩, by decide +kernel, by decide⟩
def g_X1_setDifference_46 (w : rf_w) (rec12 : Nat → Nat → Nat → Int32 → Int64 → Int32 → Int32 → rf_m → Option (rf_m)) (a0 : Nat) (a1 : Nat) (a2 : Nat) (a3 : Int32) (a4 : Int64) (a6 : Int32) (a7 : Int32) (s0 : Int64) (s1 : Int64) (m : rf_m) : Option (rf_m) := rf_g (rf_isO w a0 1) (rf_g (rf_isR w a0 2 (a0 + 1)) (rf_g (rf_isA w (a0 + 1) .long 10) (rf_g (rf_isO w a1 1) (rf_g (rf_isR w a1 2 (a1 + 1)) (rf_g (rf_isA w (a1 + 1) .long 10) (rf_g (rf_isO w a2 1) (rf_g (rf_isR w a2 2 (a2 + 1)) (rf_g (rf_isA w (a2 + 1) .long 10) (rf_g (rf_in a7 10) (rf_vl (((s0 - s1) + a4) >>> (Int32.toInt64 30 &&& 63)) fun x10 => rec12 a0 a1 a2 a3 x10 a6 (a7 + 1) (rf_l m (a0 + 1) (Int32.toNatClampNeg a7) (((s0 - s1) + a4) &&& 1073741823))))))))))))
def g_X1_setDifference_12_b (w : rf_w) (rec12 : Nat → Nat → Nat → Int32 → Int64 → Int32 → Int32 → rf_m → Option (rf_m)) (a0 : Nat) (a1 : Nat) (a2 : Nat) (a3 : Int32) (a4 : Int64) (a6 : Int32) (a7 : Int32) (m : rf_m) : Option (rf_m) := rf_g (rf_isO w a0 1) (rf_g (rf_isR w a0 2 (a0 + 1)) (rf_g (rf_isA w (a0 + 1) .long 10) (rf_g (rf_isO w a1 1) (rf_g (rf_isR w a1 2 (a1 + 1)) (rf_g (rf_isA w (a1 + 1) .long 10) (rf_g (rf_isO w a2 1) (rf_g (rf_isR w a2 2 (a2 + 1)) (rf_g (rf_isA w (a2 + 1) .long 10) ((if a6 ≤ a7 then rf_bv (g_X1_settle w m a0 a6 a3) fun m9 => some m9 else rf_g (rf_in a7 10) ((if (m.1 a2 0) ≤ a7 then g_X1_setDifference_46 w rec12 a0 a1 a2 a3 a4 a6 a7 (m.2 (a1 + 1) (Int32.toNatClampNeg a7)) 0 m else rf_g (rf_in a7 10) (g_X1_setDifference_46 w rec12 a0 a1 a2 a3 a4 a6 a7 (m.2 (a1 + 1) (Int32.toNatClampNeg a7)) (m.2 (a2 + 1) (Int32.toNatClampNeg a7)) m)))))))))))))
def g_X1_setDifference_12 (w : rf_w) : Nat → Nat → Nat → Nat → Int32 → Int64 → Int32 → Int32 → rf_m → Option (rf_m)
  | 0, _, _, _, _, _, _, _, _ => none
  | n + 1, a0, a1, a2, a3, a4, a6, a7, m => g_X1_setDifference_12_b w (g_X1_setDifference_12 w n) a0 a1 a2 a3 a4 a6 a7 m
def g_X1_setDifference (w : rf_w) (m : rf_m) (a0 : Nat) (a1 : Nat) (a2 : Nat) (a3 : Int32) : Option (rf_m) := rf_g (rf_isO w a0 1) (rf_g (rf_isR w a0 2 (a0 + 1)) (rf_g (rf_isA w (a0 + 1) .long 10) (rf_g (rf_isO w a1 1) (rf_g (rf_isR w a1 2 (a1 + 1)) (rf_g (rf_isA w (a1 + 1) .long 10) (rf_g (rf_isO w a2 1) (rf_g (rf_isR w a2 2 (a2 + 1)) (rf_g (rf_isA w (a2 + 1) .long 10) (g_X1_setDifference_12 w rf_fuel a0 a1 a2 a3 0 (m.1 a1 0) 0 m)))))))))
theorem s_X1_setDifference_46 {w : rf_w} {K : rf_K} {r : rf_m} (C : rf_Ctx 1 cX1_setDifference 10 3 (rf_sh w) K) (hE : rf_End none K (rf_sh w) 0 0 none (rf_MM w r)) {rec12 : Nat → Nat → Nat → Int32 → Int64 → Int32 → Int32 → rf_m → Option (rf_m)} (hr12 : ∀ (a0 : Nat) (a1 : Nat) (a2 : Nat) (a3 : Int32) (a4 : Int64) (a6 : Int32) (a7 : Int32) (m : rf_m), rec12 a0 a1 a2 a3 a4 a6 a7 m = some r → rf_V 10 (rf_sh w) K 0 0 12 ([(0, .ref a0), (1, .ref a1), (2, .ref a2), (3, .int a3), (4, .long a4), (6, .int a6), (7, .int a7)], [], rf_MM w m)) (a0 : Nat) (a1 : Nat) (a2 : Nat) (a3 : Int32) (a4 : Int64) (a6 : Int32) (a7 : Int32) (s0 : Int64) (s1 : Int64) (m : rf_m) (hg : g_X1_setDifference_46 w rec12 a0 a1 a2 a3 a4 a6 a7 s0 s1 m = some r) : rf_V 10 (rf_sh w) K 0 0 46 ([(0, .ref a0), (1, .ref a1), (2, .ref a2), (3, .int a3), (4, .long a4), (6, .int a6), (7, .int a7)], [.long s1, .long s0], rf_MM w m) := by
  unfold g_X1_setDifference_46 at hg
  obtain ⟨q0, hg⟩ := rf_g_some hg
  obtain ⟨q1, hg⟩ := rf_g_some hg
  obtain ⟨q2, hg⟩ := rf_g_some hg
  obtain ⟨q3, hg⟩ := rf_g_some hg
  obtain ⟨q4, hg⟩ := rf_g_some hg
  obtain ⟨q5, hg⟩ := rf_g_some hg
  obtain ⟨q6, hg⟩ := rf_g_some hg
  obtain ⟨q7, hg⟩ := rf_g_some hg
  obtain ⟨q8, hg⟩ := rf_g_some hg
  refine rf_seg C [(.lsub, 1), (.lload 4, 2), (.ladd, 1), (.lstore 8, 2), (.aload 0, 1)] (pc' := 53) (S' := ([(8, .long ((s0 - s1) + a4)), (0, .ref a0), (1, .ref a1), (2, .ref a2), (3, .int a3), (4, .long a4), (6, .int a6), (7, .int a7)], [.ref a0], rf_MM w m)) (by decide +kernel) rfl trivial ?_
  refine rf_d_getr C 1 2 (rf_isO_of q0) rfl (rf_isR_of q1) (by decide +kernel) ?_
  show rf_V 10 (rf_sh w) K 0 0 56 ([(8, .long ((s0 - s1) + a4)), (0, .ref a0), (1, .ref a1), (2, .ref a2), (3, .int a3), (4, .long a4), (6, .int a6), (7, .int a7)], [.ref (a0 + 1)], rf_MM w m)
  refine rf_seg C [(.iload 7, 2), (.lload 8, 2), (.goto_w 1073741823, 3), (.land, 1)] (pc' := 64) (S' := ([(8, .long ((s0 - s1) + a4)), (0, .ref a0), (1, .ref a1), (2, .ref a2), (3, .int a3), (4, .long a4), (6, .int a6), (7, .int a7)], [.long (((s0 - s1) + a4) &&& 1073741823), .int a7, .ref (a0 + 1)], rf_MM w m)) (by decide +kernel) rfl trivial ?_
  obtain ⟨q9, hg⟩ := rf_g_some hg
  refine rf_d_lastore C (rf_isA_of q2) (rf_in_of q9) (by decide +kernel) ?_
  show rf_V 10 (rf_sh w) K 0 0 65 ([(8, .long ((s0 - s1) + a4)), (0, .ref a0), (1, .ref a1), (2, .ref a2), (3, .int a3), (4, .long a4), (6, .int a6), (7, .int a7)], [], rf_MM w (rf_l m (a0 + 1) (Int32.toNatClampNeg a7) (((s0 - s1) + a4) &&& 1073741823)))
  refine rf_seg C [(.lload 8, 2), (.iconst 30, 2), (.lshr, 1)] (pc' := 70) (S' := ([(8, .long ((s0 - s1) + a4)), (0, .ref a0), (1, .ref a1), (2, .ref a2), (3, .int a3), (4, .long a4), (6, .int a6), (7, .int a7)], [.long (((s0 - s1) + a4) >>> (Int32.toInt64 30 &&& 63))], rf_MM w (rf_l m (a0 + 1) (Int32.toNatClampNeg a7) (((s0 - s1) + a4) &&& 1073741823)))) (by decide +kernel) rfl trivial ?_
  obtain ⟨x10, hx10, hg⟩ := rf_vl_some hg
  refine rf_vl_top hx10 ?_
  refine rf_seg C [(.lstore 4, 2), (.iinc 7 1, 3)] (pc' := 75) (S' := ([(7, .int (a7 + 1)), (4, .long x10), (8, .long ((s0 - s1) + a4)), (0, .ref a0), (1, .ref a1), (2, .ref a2), (3, .int a3), (6, .int a6)], [], rf_MM w (rf_l m (a0 + 1) (Int32.toNatClampNeg a7) (((s0 - s1) + a4) &&& 1073741823)))) (by decide +kernel) rfl trivial ?_
  refine rf_goto C (-63) 12 (by decide +kernel) ?_
  refine rf_few [3, 4, 5, 6, 1, 7, 0] rfl ?_
  exact hr12 a0 a1 a2 a3 x10 a6 (a7 + 1) (rf_l m (a0 + 1) (Int32.toNatClampNeg a7) (((s0 - s1) + a4) &&& 1073741823)) hg
theorem s_X1_setDifference_12_b {w : rf_w} {K : rf_K} {r : rf_m} (C : rf_Ctx 1 cX1_setDifference 10 3 (rf_sh w) K) (hE : rf_End none K (rf_sh w) 0 0 none (rf_MM w r)) {rec12 : Nat → Nat → Nat → Int32 → Int64 → Int32 → Int32 → rf_m → Option (rf_m)} (hr12 : ∀ (a0 : Nat) (a1 : Nat) (a2 : Nat) (a3 : Int32) (a4 : Int64) (a6 : Int32) (a7 : Int32) (m : rf_m), rec12 a0 a1 a2 a3 a4 a6 a7 m = some r → rf_V 10 (rf_sh w) K 0 0 12 ([(0, .ref a0), (1, .ref a1), (2, .ref a2), (3, .int a3), (4, .long a4), (6, .int a6), (7, .int a7)], [], rf_MM w m)) (a0 : Nat) (a1 : Nat) (a2 : Nat) (a3 : Int32) (a4 : Int64) (a6 : Int32) (a7 : Int32) (m : rf_m) (hg : g_X1_setDifference_12_b w rec12 a0 a1 a2 a3 a4 a6 a7 m = some r) : rf_V 10 (rf_sh w) K 0 0 12 ([(0, .ref a0), (1, .ref a1), (2, .ref a2), (3, .int a3), (4, .long a4), (6, .int a6), (7, .int a7)], [], rf_MM w m) := by
  unfold g_X1_setDifference_12_b at hg
  obtain ⟨q0, hg⟩ := rf_g_some hg
  obtain ⟨q1, hg⟩ := rf_g_some hg
  obtain ⟨q2, hg⟩ := rf_g_some hg
  obtain ⟨q3, hg⟩ := rf_g_some hg
  obtain ⟨q4, hg⟩ := rf_g_some hg
  obtain ⟨q5, hg⟩ := rf_g_some hg
  obtain ⟨q6, hg⟩ := rf_g_some hg
  obtain ⟨q7, hg⟩ := rf_g_some hg
  obtain ⟨q8, hg⟩ := rf_g_some hg
  refine rf_seg C [(.iload 7, 2), (.iload 6, 2)] (pc' := 16) (S' := ([(0, .ref a0), (1, .ref a1), (2, .ref a2), (3, .int a3), (4, .long a4), (6, .int a6), (7, .int a7)], [.int a6, .int a7], rf_MM w m)) (by decide +kernel) rfl trivial ?_
  refine rf_icmp_ge C 62 78 (by decide +kernel) (fun hc => ?_) (fun hc => ?_)
  · replace hg := (if_pos hc).symm.trans hg
    refine rf_seg C [(.aload 0, 1), (.iload 6, 2), (.iload 3, 1)] (pc' := 82) (S' := ([(0, .ref a0), (1, .ref a1), (2, .ref a2), (3, .int a3), (4, .long a4), (6, .int a6), (7, .int a7)], [.int a3, .int a6, .ref a0], rf_MM w m)) (by decide +kernel) rfl trivial ?_
    obtain ⟨m9, hc9, hg⟩ := rf_bv_some hg
    refine rf_callv C rf_fit0 j_X1_settle (ci := 1) (As := [.int a6, .int a3]) (rest := []) mw_X1_settle (c_X1_settle hc9) (by decide) (rf_isO_of q0) (by decide) lk_1_43 rfl rfl (Nat.le_of_ble_eq_true rfl) (by decide +kernel) ?_
    show rf_V 10 (rf_sh w) K 0 0 85 ([(0, .ref a0), (1, .ref a1), (2, .ref a2), (3, .int a3), (4, .long a4), (6, .int a6), (7, .int a7)], [], rf_MM w m9)
    obtain rfl := Option.some.inj hg
    exact rf_vret C hE (by decide +kernel)
  · replace hg := (if_neg hc).symm.trans hg
    refine rf_seg C [(.aload 1, 1)] (pc' := 20) (S' := ([(0, .ref a0), (1, .ref a1), (2, .ref a2), (3, .int a3), (4, .long a4), (6, .int a6), (7, .int a7)], [.ref a1], rf_MM w m)) (by decide +kernel) rfl trivial ?_
    refine rf_d_getr C 1 2 (rf_isO_of q3) rfl (rf_isR_of q4) (by decide +kernel) ?_
    show rf_V 10 (rf_sh w) K 0 0 23 ([(0, .ref a0), (1, .ref a1), (2, .ref a2), (3, .int a3), (4, .long a4), (6, .int a6), (7, .int a7)], [.ref (a1 + 1)], rf_MM w m)
    refine rf_seg C [(.iload 7, 2)] (pc' := 25) (S' := ([(0, .ref a0), (1, .ref a1), (2, .ref a2), (3, .int a3), (4, .long a4), (6, .int a6), (7, .int a7)], [.int a7, .ref (a1 + 1)], rf_MM w m)) (by decide +kernel) rfl trivial ?_
    obtain ⟨q10, hg⟩ := rf_g_some hg
    refine rf_d_laload C (rf_isA_of q5) (rf_in_of q10) (by decide +kernel) ?_
    show rf_V 10 (rf_sh w) K 0 0 26 ([(0, .ref a0), (1, .ref a1), (2, .ref a2), (3, .int a3), (4, .long a4), (6, .int a6), (7, .int a7)], [.long (m.2 (a1 + 1) (Int32.toNatClampNeg a7))], rf_MM w m)
    refine rf_seg C [(.iload 7, 2), (.aload 2, 1)] (pc' := 29) (S' := ([(0, .ref a0), (1, .ref a1), (2, .ref a2), (3, .int a3), (4, .long a4), (6, .int a6), (7, .int a7)], [.ref a2, .int a7, .long (m.2 (a1 + 1) (Int32.toNatClampNeg a7))], rf_MM w m)) (by decide +kernel) rfl trivial ?_
    refine rf_d_get C 1 0 (rf_isO_of q6) (by decide +kernel) ?_
    show rf_V 10 (rf_sh w) K 0 0 32 ([(0, .ref a0), (1, .ref a1), (2, .ref a2), (3, .int a3), (4, .long a4), (6, .int a6), (7, .int a7)], [.int (m.1 a2 0), .int a7, .long (m.2 (a1 + 1) (Int32.toNatClampNeg a7))], rf_MM w m)
    refine rf_icmp_ge C 13 45 (by decide +kernel) (fun hc => ?_) (fun hc => ?_)
    · replace hg := (if_pos hc).symm.trans hg
      refine rf_seg C [(.goto_w 0, 1)] (pc' := 46) (S' := ([(0, .ref a0), (1, .ref a1), (2, .ref a2), (3, .int a3), (4, .long a4), (6, .int a6), (7, .int a7)], [.long 0, .long (m.2 (a1 + 1) (Int32.toNatClampNeg a7))], rf_MM w m)) (by decide +kernel) rfl trivial ?_
      refine rf_few [0, 1, 2, 3, 4, 5, 6] rfl ?_
      exact s_X1_setDifference_46 C hE hr12 a0 a1 a2 a3 a4 a6 a7 (m.2 (a1 + 1) (Int32.toNatClampNeg a7)) 0 m hg
    · replace hg := (if_neg hc).symm.trans hg
      refine rf_seg C [(.aload 2, 1)] (pc' := 36) (S' := ([(0, .ref a0), (1, .ref a1), (2, .ref a2), (3, .int a3), (4, .long a4), (6, .int a6), (7, .int a7)], [.ref a2, .long (m.2 (a1 + 1) (Int32.toNatClampNeg a7))], rf_MM w m)) (by decide +kernel) rfl trivial ?_
      refine rf_d_getr C 1 2 (rf_isO_of q6) rfl (rf_isR_of q7) (by decide +kernel) ?_
      show rf_V 10 (rf_sh w) K 0 0 39 ([(0, .ref a0), (1, .ref a1), (2, .ref a2), (3, .int a3), (4, .long a4), (6, .int a6), (7, .int a7)], [.ref (a2 + 1), .long (m.2 (a1 + 1) (Int32.toNatClampNeg a7))], rf_MM w m)
      refine rf_seg C [(.iload 7, 2)] (pc' := 41) (S' := ([(0, .ref a0), (1, .ref a1), (2, .ref a2), (3, .int a3), (4, .long a4), (6, .int a6), (7, .int a7)], [.int a7, .ref (a2 + 1), .long (m.2 (a1 + 1) (Int32.toNatClampNeg a7))], rf_MM w m)) (by decide +kernel) rfl trivial ?_
      obtain ⟨q11, hg⟩ := rf_g_some hg
      refine rf_d_laload C (rf_isA_of q8) (rf_in_of q11) (by decide +kernel) ?_
      show rf_V 10 (rf_sh w) K 0 0 42 ([(0, .ref a0), (1, .ref a1), (2, .ref a2), (3, .int a3), (4, .long a4), (6, .int a6), (7, .int a7)], [.long (m.2 (a2 + 1) (Int32.toNatClampNeg a7)), .long (m.2 (a1 + 1) (Int32.toNatClampNeg a7))], rf_MM w m)
      refine rf_goto C 4 46 (by decide +kernel) ?_
      refine rf_few [0, 1, 2, 3, 4, 5, 6] rfl ?_
      exact s_X1_setDifference_46 C hE hr12 a0 a1 a2 a3 a4 a6 a7 (m.2 (a1 + 1) (Int32.toNatClampNeg a7)) (m.2 (a2 + 1) (Int32.toNatClampNeg a7)) m hg
theorem s_X1_setDifference_12 {w : rf_w} {K : rf_K} {r : rf_m} (C : rf_Ctx 1 cX1_setDifference 10 3 (rf_sh w) K) (hE : rf_End none K (rf_sh w) 0 0 none (rf_MM w r)) (n : Nat) : ∀ (a0 : Nat) (a1 : Nat) (a2 : Nat) (a3 : Int32) (a4 : Int64) (a6 : Int32) (a7 : Int32) (m : rf_m), g_X1_setDifference_12 w n a0 a1 a2 a3 a4 a6 a7 m = some r → rf_V 10 (rf_sh w) K 0 0 12 ([(0, .ref a0), (1, .ref a1), (2, .ref a2), (3, .int a3), (4, .long a4), (6, .int a6), (7, .int a7)], [], rf_MM w m) := by
  induction n with
  | zero => intro a0 a1 a2 a3 a4 a6 a7 m hg; cases hg
  | succ n ih => intro a0 a1 a2 a3 a4 a6 a7 m hg; exact s_X1_setDifference_12_b C hE ih a0 a1 a2 a3 a4 a6 a7 m hg
theorem c_X1_setDifference {w : rf_w} {m : rf_m} {a0 : Nat} {a1 : Nat} {a2 : Nat} {a3 : Int32} {r : rf_m} (hg : g_X1_setDifference w m a0 a1 a2 a3 = some r) : rf_Con j_X1_setDifference 3 (rf_sh w) [.ref a0, .ref a1, .ref a2, .int a3] (rf_MM w m) none (rf_MM w r) := by
  refine rf_con j_X1_setDifference 3 ⟨by decide +kernel, rfl, Nat.le_of_ble_eq_true rfl⟩ (fun K C hE => ?_)
  unfold g_X1_setDifference at hg
  show rf_V 10 (rf_sh w) K 0 0 0 ([(0, .ref a0), (1, .ref a1), (2, .ref a2), (3, .int a3)], [], rf_MM w m)
  obtain ⟨q0, hg⟩ := rf_g_some hg
  obtain ⟨q1, hg⟩ := rf_g_some hg
  obtain ⟨q2, hg⟩ := rf_g_some hg
  obtain ⟨q3, hg⟩ := rf_g_some hg
  obtain ⟨q4, hg⟩ := rf_g_some hg
  obtain ⟨q5, hg⟩ := rf_g_some hg
  obtain ⟨q6, hg⟩ := rf_g_some hg
  obtain ⟨q7, hg⟩ := rf_g_some hg
  obtain ⟨q8, hg⟩ := rf_g_some hg
  refine rf_seg C [(.goto_w 0, 1), (.lstore 4, 2), (.aload 1, 1)] (pc' := 4) (S' := ([(4, .long 0), (0, .ref a0), (1, .ref a1), (2, .ref a2), (3, .int a3)], [.ref a1], rf_MM w m)) (by decide +kernel) rfl trivial ?_
  refine rf_d_get C 1 0 (rf_isO_of q3) (by decide +kernel) ?_
  show rf_V 10 (rf_sh w) K 0 0 7 ([(4, .long 0), (0, .ref a0), (1, .ref a1), (2, .ref a2), (3, .int a3)], [.int (m.1 a1 0)], rf_MM w m)
  refine rf_seg C [(.istore 6, 2), (.iconst 0, 1), (.istore 7, 2)] (pc' := 12) (S' := ([(7, .int 0), (6, .int (m.1 a1 0)), (4, .long 0), (0, .ref a0), (1, .ref a1), (2, .ref a2), (3, .int a3)], [], rf_MM w m)) (by decide +kernel) rfl trivial ?_
  refine rf_few [3, 4, 5, 6, 2, 1, 0] rfl ?_
  exact s_X1_setDifference_12 C hE rf_fuel a0 a1 a2 a3 0 (m.1 a1 0) 0 m hg
-- X1_addSize
abbrev j_X1_addSize : rf_J := (1, yX1_addSize, cX1_addSize, 8, none)
theorem mw_X1_addSize : rf_mv j_X1_addSize (rf_R 1) 1 := ⟨⟨rf_mem 67 (by decide +kernel), rf_mem 67 (by decide +kernel), rf_mem 5 (by decide +kernel), rf_mem 68 (by decide +kernel)⟩, by decide +kernel, by decide⟩
def g_X1_addSize_65 (w : rf_w) (rec18 : Nat → Nat → Int64 → Int32 → Int32 → rf_m → Option (rf_m)) (a0 : Nat) (a1 : Nat) (a2 : Int64) (a4 : Int32) (a5 : Int32) (s0 : Int64) (s1 : Int64) (m : rf_m) : Option (rf_m) := rf_g (rf_isO w a0 1) (rf_g (rf_isR w a0 2 (a0 + 1)) (rf_g (rf_isA w (a0 + 1) .long 10) (rf_g (rf_isO w a1 1) (rf_g (rf_isR w a1 2 (a1 + 1)) (rf_g (rf_isA w (a1 + 1) .long 10) (rf_g (rf_in a5 10) (rf_vl (((s0 + s1) + a2) >>> (Int32.toInt64 30 &&& 63)) fun x7 => rec18 a0 a1 x7 a4 (a5 + 1) (rf_l m (a0 + 1) (Int32.toNatClampNeg a5) (((s0 + s1) + a2) &&& 1073741823)))))))))
def g_X1_addSize_45 (w : rf_w) (rec18 : Nat → Nat → Int64 → Int32 → Int32 → rf_m → Option (rf_m)) (a0 : Nat) (a1 : Nat) (a2 : Int64) (a4 : Int32) (a5 : Int32) (s0 : Int64) (m : rf_m) : Option (rf_m) := rf_g (rf_isO w a0 1) (rf_g (rf_isR w a0 2 (a0 + 1)) (rf_g (rf_isA w (a0 + 1) .long 10) (rf_g (rf_isO w a1 1) (rf_g (rf_isR w a1 2 (a1 + 1)) (rf_g (rf_isA w (a1 + 1) .long 10) ((if (m.1 a1 0) ≤ a5 then g_X1_addSize_65 w rec18 a0 a1 a2 a4 a5 s0 0 m else rf_g (rf_in a5 10) (g_X1_addSize_65 w rec18 a0 a1 a2 a4 a5 s0 (m.2 (a1 + 1) (Int32.toNatClampNeg a5)) m))))))))
def g_X1_addSize_18_b (w : rf_w) (rec18 : Nat → Nat → Int64 → Int32 → Int32 → rf_m → Option (rf_m)) (a0 : Nat) (a1 : Nat) (a2 : Int64) (a4 : Int32) (a5 : Int32) (m : rf_m) : Option (rf_m) := rf_g (rf_isO w a0 1) (rf_g (rf_isR w a0 2 (a0 + 1)) (rf_g (rf_isA w (a0 + 1) .long 10) (rf_g (rf_isO w a1 1) (rf_g (rf_isR w a1 2 (a1 + 1)) (rf_g (rf_isA w (a1 + 1) .long 10) ((if a4 ≤ a5 then (if 10 ≤ a4 then rf_bv (g_X1_settle w m a0 (a4 + 1) (m.1 a0 1)) fun m6 => some m6 else rf_g (rf_in a4 10) (rf_bv (g_X1_settle w (rf_l m (a0 + 1) (Int32.toNatClampNeg a4) a2) a0 (a4 + 1) ((rf_l m (a0 + 1) (Int32.toNatClampNeg a4) a2).1 a0 1)) fun m8 => some m8)) else (if (m.1 a0 0) ≤ a5 then g_X1_addSize_45 w rec18 a0 a1 a2 a4 a5 0 m else rf_g (rf_in a5 10) (g_X1_addSize_45 w rec18 a0 a1 a2 a4 a5 (m.2 (a0 + 1) (Int32.toNatClampNeg a5)) m)))))))))
def g_X1_addSize_18 (w : rf_w) : Nat → Nat → Nat → Int64 → Int32 → Int32 → rf_m → Option (rf_m)
  | 0, _, _, _, _, _, _ => none
  | n + 1, a0, a1, a2, a4, a5, m => g_X1_addSize_18_b w (g_X1_addSize_18 w n) a0 a1 a2 a4 a5 m
def g_X1_addSize (w : rf_w) (m : rf_m) (a0 : Nat) (a1 : Nat) : Option (rf_m) := rf_g (rf_isO w a0 1) (rf_g (rf_isR w a0 2 (a0 + 1)) (rf_g (rf_isA w (a0 + 1) .long 10) (rf_g (rf_isO w a1 1) (rf_g (rf_isR w a1 2 (a1 + 1)) (rf_g (rf_isA w (a1 + 1) .long 10) (rf_b (g_max w m (m.1 a0 0) (m.1 a1 0)) fun y6 m6 => g_X1_addSize_18 w rf_fuel a0 a1 0 y6 0 m6))))))
theorem s_X1_addSize_65 {w : rf_w} {K : rf_K} {r : rf_m} (C : rf_Ctx 1 cX1_addSize 8 3 (rf_sh w) K) (hE : rf_End none K (rf_sh w) 0 0 none (rf_MM w r)) {rec18 : Nat → Nat → Int64 → Int32 → Int32 → rf_m → Option (rf_m)} (hr18 : ∀ (a0 : Nat) (a1 : Nat) (a2 : Int64) (a4 : Int32) (a5 : Int32) (m : rf_m), rec18 a0 a1 a2 a4 a5 m = some r → rf_V 8 (rf_sh w) K 0 0 18 ([(0, .ref a0), (1, .ref a1), (2, .long a2), (4, .int a4), (5, .int a5)], [], rf_MM w m)) (a0 : Nat) (a1 : Nat) (a2 : Int64) (a4 : Int32) (a5 : Int32) (s0 : Int64) (s1 : Int64) (m : rf_m) (hg : g_X1_addSize_65 w rec18 a0 a1 a2 a4 a5 s0 s1 m = some r) : rf_V 8 (rf_sh w) K 0 0 65 ([(0, .ref a0), (1, .ref a1), (2, .long a2), (4, .int a4), (5, .int a5)], [.long s1, .long s0], rf_MM w m) := by
  unfold g_X1_addSize_65 at hg
  obtain ⟨q0, hg⟩ := rf_g_some hg
  obtain ⟨q1, hg⟩ := rf_g_some hg
  obtain ⟨q2, hg⟩ := rf_g_some hg
  obtain ⟨q3, hg⟩ := rf_g_some hg
  obtain ⟨q4, hg⟩ := rf_g_some hg
  obtain ⟨q5, hg⟩ := rf_g_some hg
  refine rf_seg C [(.ladd, 1), (.lload 2, 1), (.ladd, 1), (.lstore 6, 2), (.aload 0, 1)] (pc' := 71) (S' := ([(6, .long ((s0 + s1) + a2)), (0, .ref a0), (1, .ref a1), (2, .long a2), (4, .int a4), (5, .int a5)], [.ref a0], rf_MM w m)) (by decide +kernel) rfl trivial ?_
  refine rf_d_getr C 1 2 (rf_isO_of q0) rfl (rf_isR_of q1) (by decide +kernel) ?_
  show rf_V 8 (rf_sh w) K 0 0 74 ([(6, .long ((s0 + s1) + a2)), (0, .ref a0), (1, .ref a1), (2, .long a2), (4, .int a4), (5, .int a5)], [.ref (a0 + 1)], rf_MM w m)
  refine rf_seg C [(.iload 5, 2), (.lload 6, 2), (.goto_w 1073741823, 3), (.land, 1)] (pc' := 82) (S' := ([(6, .long ((s0 + s1) + a2)), (0, .ref a0), (1, .ref a1), (2, .long a2), (4, .int a4), (5, .int a5)], [.long (((s0 + s1) + a2) &&& 1073741823), .int a5, .ref (a0 + 1)], rf_MM w m)) (by decide +kernel) rfl trivial ?_
  obtain ⟨q6, hg⟩ := rf_g_some hg
  refine rf_d_lastore C (rf_isA_of q2) (rf_in_of q6) (by decide +kernel) ?_
  show rf_V 8 (rf_sh w) K 0 0 83 ([(6, .long ((s0 + s1) + a2)), (0, .ref a0), (1, .ref a1), (2, .long a2), (4, .int a4), (5, .int a5)], [], rf_MM w (rf_l m (a0 + 1) (Int32.toNatClampNeg a5) (((s0 + s1) + a2) &&& 1073741823)))
  refine rf_seg C [(.lload 6, 2), (.iconst 30, 2), (.lshr, 1)] (pc' := 88) (S' := ([(6, .long ((s0 + s1) + a2)), (0, .ref a0), (1, .ref a1), (2, .long a2), (4, .int a4), (5, .int a5)], [.long (((s0 + s1) + a2) >>> (Int32.toInt64 30 &&& 63))], rf_MM w (rf_l m (a0 + 1) (Int32.toNatClampNeg a5) (((s0 + s1) + a2) &&& 1073741823)))) (by decide +kernel) rfl trivial ?_
  obtain ⟨x7, hx7, hg⟩ := rf_vl_some hg
  refine rf_vl_top hx7 ?_
  refine rf_seg C [(.lstore 2, 1), (.iinc 5 1, 3)] (pc' := 92) (S' := ([(5, .int (a5 + 1)), (2, .long x7), (6, .long ((s0 + s1) + a2)), (0, .ref a0), (1, .ref a1), (4, .int a4)], [], rf_MM w (rf_l m (a0 + 1) (Int32.toNatClampNeg a5) (((s0 + s1) + a2) &&& 1073741823)))) (by decide +kernel) rfl trivial ?_
  refine rf_goto C (-74) 18 (by decide +kernel) ?_
  refine rf_few [3, 4, 1, 5, 0] rfl ?_
  exact hr18 a0 a1 x7 a4 (a5 + 1) (rf_l m (a0 + 1) (Int32.toNatClampNeg a5) (((s0 + s1) + a2) &&& 1073741823)) hg
theorem s_X1_addSize_45 {w : rf_w} {K : rf_K} {r : rf_m} (C : rf_Ctx 1 cX1_addSize 8 3 (rf_sh w) K) (hE : rf_End none K (rf_sh w) 0 0 none (rf_MM w r)) {rec18 : Nat → Nat → Int64 → Int32 → Int32 → rf_m → Option (rf_m)} (hr18 : ∀ (a0 : Nat) (a1 : Nat) (a2 : Int64) (a4 : Int32) (a5 : Int32) (m : rf_m), rec18 a0 a1 a2 a4 a5 m = some r → rf_V 8 (rf_sh w) K 0 0 18 ([(0, .ref a0), (1, .ref a1), (2, .long a2), (4, .int a4), (5, .int a5)], [], rf_MM w m)) (a0 : Nat) (a1 : Nat) (a2 : Int64) (a4 : Int32) (a5 : Int32) (s0 : Int64) (m : rf_m) (hg : g_X1_addSize_45 w rec18 a0 a1 a2 a4 a5 s0 m = some r) : rf_V 8 (rf_sh w) K 0 0 45 ([(0, .ref a0), (1, .ref a1), (2, .long a2), (4, .int a4), (5, .int a5)], [.long s0], rf_MM w m) := by
  unfold g_X1_addSize_45 at hg
  obtain ⟨q0, hg⟩ := rf_g_some hg
  obtain ⟨q1, hg⟩ := rf_g_some hg
  obtain ⟨q2, hg⟩ := rf_g_some hg
  obtain ⟨q3, hg⟩ := rf_g_some hg
  obtain ⟨q4, hg⟩ := rf_g_some hg
  obtain ⟨q5, hg⟩ := rf_g_some hg
  refine rf_seg C [(.iload 5, 2), (.aload 1, 1)] (pc' := 48) (S' := ([(0, .ref a0), (1, .ref a1), (2, .long a2), (4, .int a4), (5, .int a5)], [.ref a1, .int a5, .long s0], rf_MM w m)) (by decide +kernel) rfl trivial ?_
  refine rf_d_get C 1 0 (rf_isO_of q3) (by decide +kernel) ?_
  show rf_V 8 (rf_sh w) K 0 0 51 ([(0, .ref a0), (1, .ref a1), (2, .long a2), (4, .int a4), (5, .int a5)], [.int (m.1 a1 0), .int a5, .long s0], rf_MM w m)
  refine rf_icmp_ge C 13 64 (by decide +kernel) (fun hc => ?_) (fun hc => ?_)
  · replace hg := (if_pos hc).symm.trans hg
    refine rf_seg C [(.goto_w 0, 1)] (pc' := 65) (S' := ([(0, .ref a0), (1, .ref a1), (2, .long a2), (4, .int a4), (5, .int a5)], [.long 0, .long s0], rf_MM w m)) (by decide +kernel) rfl trivial ?_
    refine rf_few [0, 1, 2, 3, 4] rfl ?_
    exact s_X1_addSize_65 C hE hr18 a0 a1 a2 a4 a5 s0 0 m hg
  · replace hg := (if_neg hc).symm.trans hg
    refine rf_seg C [(.aload 1, 1)] (pc' := 55) (S' := ([(0, .ref a0), (1, .ref a1), (2, .long a2), (4, .int a4), (5, .int a5)], [.ref a1, .long s0], rf_MM w m)) (by decide +kernel) rfl trivial ?_
    refine rf_d_getr C 1 2 (rf_isO_of q3) rfl (rf_isR_of q4) (by decide +kernel) ?_
    show rf_V 8 (rf_sh w) K 0 0 58 ([(0, .ref a0), (1, .ref a1), (2, .long a2), (4, .int a4), (5, .int a5)], [.ref (a1 + 1), .long s0], rf_MM w m)
    refine rf_seg C [(.iload 5, 2)] (pc' := 60) (S' := ([(0, .ref a0), (1, .ref a1), (2, .long a2), (4, .int a4), (5, .int a5)], [.int a5, .ref (a1 + 1), .long s0], rf_MM w m)) (by decide +kernel) rfl trivial ?_
    obtain ⟨q6, hg⟩ := rf_g_some hg
    refine rf_d_laload C (rf_isA_of q5) (rf_in_of q6) (by decide +kernel) ?_
    show rf_V 8 (rf_sh w) K 0 0 61 ([(0, .ref a0), (1, .ref a1), (2, .long a2), (4, .int a4), (5, .int a5)], [.long (m.2 (a1 + 1) (Int32.toNatClampNeg a5)), .long s0], rf_MM w m)
    refine rf_goto C 4 65 (by decide +kernel) ?_
    refine rf_few [0, 1, 2, 3, 4] rfl ?_
    exact s_X1_addSize_65 C hE hr18 a0 a1 a2 a4 a5 s0 (m.2 (a1 + 1) (Int32.toNatClampNeg a5)) m hg
theorem s_X1_addSize_18_b {w : rf_w} {K : rf_K} {r : rf_m} (C : rf_Ctx 1 cX1_addSize 8 3 (rf_sh w) K) (hE : rf_End none K (rf_sh w) 0 0 none (rf_MM w r)) {rec18 : Nat → Nat → Int64 → Int32 → Int32 → rf_m → Option (rf_m)} (hr18 : ∀ (a0 : Nat) (a1 : Nat) (a2 : Int64) (a4 : Int32) (a5 : Int32) (m : rf_m), rec18 a0 a1 a2 a4 a5 m = some r → rf_V 8 (rf_sh w) K 0 0 18 ([(0, .ref a0), (1, .ref a1), (2, .long a2), (4, .int a4), (5, .int a5)], [], rf_MM w m)) (a0 : Nat) (a1 : Nat) (a2 : Int64) (a4 : Int32) (a5 : Int32) (m : rf_m) (hg : g_X1_addSize_18_b w rec18 a0 a1 a2 a4 a5 m = some r) : rf_V 8 (rf_sh w) K 0 0 18 ([(0, .ref a0), (1, .ref a1), (2, .long a2), (4, .int a4), (5, .int a5)], [], rf_MM w m) := by
  unfold g_X1_addSize_18_b at hg
  obtain ⟨q0, hg⟩ := rf_g_some hg
  obtain ⟨q1, hg⟩ := rf_g_some hg
  obtain ⟨q2, hg⟩ := rf_g_some hg
  obtain ⟨q3, hg⟩ := rf_g_some hg
  obtain ⟨q4, hg⟩ := rf_g_some hg
  obtain ⟨q5, hg⟩ := rf_g_some hg
  refine rf_seg C [(.iload 5, 2), (.iload 4, 2)] (pc' := 22) (S' := ([(0, .ref a0), (1, .ref a1), (2, .long a2), (4, .int a4), (5, .int a5)], [.int a4, .int a5], rf_MM w m)) (by decide +kernel) rfl trivial ?_
  refine rf_icmp_ge C 73 95 (by decide +kernel) (fun hc => ?_) (fun hc => ?_)
  · replace hg := (if_pos hc).symm.trans hg
    refine rf_seg C [(.iload 4, 2), (.iconst 10, 2)] (pc' := 99) (S' := ([(0, .ref a0), (1, .ref a1), (2, .long a2), (4, .int a4), (5, .int a5)], [.int 10, .int a4], rf_MM w m)) (by decide +kernel) rfl trivial ?_
    refine rf_icmp_ge C 11 110 (by decide +kernel) (fun hc => ?_) (fun hc => ?_)
    · replace hg := (if_pos hc).symm.trans hg
      refine rf_seg C [(.aload 0, 1), (.iload 4, 2), (.iconst 1, 1), (.iadd, 1), (.aload 0, 1)] (pc' := 116) (S' := ([(0, .ref a0), (1, .ref a1), (2, .long a2), (4, .int a4), (5, .int a5)], [.ref a0, .int (a4 + 1), .ref a0], rf_MM w m)) (by decide +kernel) rfl trivial ?_
      refine rf_d_get C 1 1 (rf_isO_of q0) (by decide +kernel) ?_
      show rf_V 8 (rf_sh w) K 0 0 119 ([(0, .ref a0), (1, .ref a1), (2, .long a2), (4, .int a4), (5, .int a5)], [.int (m.1 a0 1), .int (a4 + 1), .ref a0], rf_MM w m)
      obtain ⟨m6, hc6, hg⟩ := rf_bv_some hg
      refine rf_callv C rf_fit0 j_X1_settle (ci := 1) (As := [.int (a4 + 1), .int (m.1 a0 1)]) (rest := []) mw_X1_settle (c_X1_settle hc6) (by decide) (rf_isO_of q0) (by decide) lk_1_43 rfl rfl (Nat.le_of_ble_eq_true rfl) (by decide +kernel) ?_
      show rf_V 8 (rf_sh w) K 0 0 122 ([(0, .ref a0), (1, .ref a1), (2, .long a2), (4, .int a4), (5, .int a5)], [], rf_MM w m6)
      obtain rfl := Option.some.inj hg
      exact rf_vret C hE (by decide +kernel)
    · replace hg := (if_neg hc).symm.trans hg
      refine rf_seg C [(.aload 0, 1)] (pc' := 103) (S' := ([(0, .ref a0), (1, .ref a1), (2, .long a2), (4, .int a4), (5, .int a5)], [.ref a0], rf_MM w m)) (by decide +kernel) rfl trivial ?_
      refine rf_d_getr C 1 2 (rf_isO_of q0) rfl (rf_isR_of q1) (by decide +kernel) ?_
      show rf_V 8 (rf_sh w) K 0 0 106 ([(0, .ref a0), (1, .ref a1), (2, .long a2), (4, .int a4), (5, .int a5)], [.ref (a0 + 1)], rf_MM w m)
      refine rf_seg C [(.iload 4, 2), (.lload 2, 1)] (pc' := 109) (S' := ([(0, .ref a0), (1, .ref a1), (2, .long a2), (4, .int a4), (5, .int a5)], [.long a2, .int a4, .ref (a0 + 1)], rf_MM w m)) (by decide +kernel) rfl trivial ?_
      obtain ⟨q7, hg⟩ := rf_g_some hg
      refine rf_d_lastore C (rf_isA_of q2) (rf_in_of q7) (by decide +kernel) ?_
      show rf_V 8 (rf_sh w) K 0 0 110 ([(0, .ref a0), (1, .ref a1), (2, .long a2), (4, .int a4), (5, .int a5)], [], rf_MM w (rf_l m (a0 + 1) (Int32.toNatClampNeg a4) a2))
      refine rf_seg C [(.aload 0, 1), (.iload 4, 2), (.iconst 1, 1), (.iadd, 1), (.aload 0, 1)] (pc' := 116) (S' := ([(0, .ref a0), (1, .ref a1), (2, .long a2), (4, .int a4), (5, .int a5)], [.ref a0, .int (a4 + 1), .ref a0], rf_MM w (rf_l m (a0 + 1) (Int32.toNatClampNeg a4) a2))) (by decide +kernel) rfl trivial ?_
      refine rf_d_get C 1 1 (rf_isO_of q0) (by decide +kernel) ?_
      show rf_V 8 (rf_sh w) K 0 0 119 ([(0, .ref a0), (1, .ref a1), (2, .long a2), (4, .int a4), (5, .int a5)], [.int ((rf_l m (a0 + 1) (Int32.toNatClampNeg a4) a2).1 a0 1), .int (a4 + 1), .ref a0], rf_MM w (rf_l m (a0 + 1) (Int32.toNatClampNeg a4) a2))
      obtain ⟨m8, hc8, hg⟩ := rf_bv_some hg
      refine rf_callv C rf_fit0 j_X1_settle (ci := 1) (As := [.int (a4 + 1), .int ((rf_l m (a0 + 1) (Int32.toNatClampNeg a4) a2).1 a0 1)]) (rest := []) mw_X1_settle (c_X1_settle hc8) (by decide) (rf_isO_of q0) (by decide) lk_1_43 rfl rfl (Nat.le_of_ble_eq_true rfl) (by decide +kernel) ?_
      show rf_V 8 (rf_sh w) K 0 0 122 ([(0, .ref a0), (1, .ref a1), (2, .long a2), (4, .int a4), (5, .int a5)], [], rf_MM w m8)
      obtain rfl := Option.some.inj hg
      exact rf_vret C hE (by decide +kernel)
  · replace hg := (if_neg hc).symm.trans hg
    refine rf_seg C [(.iload 5, 2), (.aload 0, 1)] (pc' := 28) (S' := ([(0, .ref a0), (1, .ref a1), (2, .long a2), (4, .int a4), (5, .int a5)], [.ref a0, .int a5], rf_MM w m)) (by decide +kernel) rfl trivial ?_
    refine rf_d_get C 1 0 (rf_isO_of q0) (by decide +kernel) ?_
    show rf_V 8 (rf_sh w) K 0 0 31 ([(0, .ref a0), (1, .ref a1), (2, .long a2), (4, .int a4), (5, .int a5)], [.int (m.1 a0 0), .int a5], rf_MM w m)
    refine rf_icmp_ge C 13 44 (by decide +kernel) (fun hc => ?_) (fun hc => ?_)
    · replace hg := (if_pos hc).symm.trans hg
      refine rf_seg C [(.goto_w 0, 1)] (pc' := 45) (S' := ([(0, .ref a0), (1, .ref a1), (2, .long a2), (4, .int a4), (5, .int a5)], [.long 0], rf_MM w m)) (by decide +kernel) rfl trivial ?_
      refine rf_few [0, 1, 2, 3, 4] rfl ?_
      exact s_X1_addSize_45 C hE hr18 a0 a1 a2 a4 a5 0 m hg
    · replace hg := (if_neg hc).symm.trans hg
      refine rf_seg C [(.aload 0, 1)] (pc' := 35) (S' := ([(0, .ref a0), (1, .ref a1), (2, .long a2), (4, .int a4), (5, .int a5)], [.ref a0], rf_MM w m)) (by decide +kernel) rfl trivial ?_
      refine rf_d_getr C 1 2 (rf_isO_of q0) rfl (rf_isR_of q1) (by decide +kernel) ?_
      show rf_V 8 (rf_sh w) K 0 0 38 ([(0, .ref a0), (1, .ref a1), (2, .long a2), (4, .int a4), (5, .int a5)], [.ref (a0 + 1)], rf_MM w m)
      refine rf_seg C [(.iload 5, 2)] (pc' := 40) (S' := ([(0, .ref a0), (1, .ref a1), (2, .long a2), (4, .int a4), (5, .int a5)], [.int a5, .ref (a0 + 1)], rf_MM w m)) (by decide +kernel) rfl trivial ?_
      obtain ⟨q9, hg⟩ := rf_g_some hg
      refine rf_d_laload C (rf_isA_of q2) (rf_in_of q9) (by decide +kernel) ?_
      show rf_V 8 (rf_sh w) K 0 0 41 ([(0, .ref a0), (1, .ref a1), (2, .long a2), (4, .int a4), (5, .int a5)], [.long (m.2 (a0 + 1) (Int32.toNatClampNeg a5))], rf_MM w m)
      refine rf_goto C 4 45 (by decide +kernel) ?_
      refine rf_few [0, 1, 2, 3, 4] rfl ?_
      exact s_X1_addSize_45 C hE hr18 a0 a1 a2 a4 a5 (m.2 (a0 + 1) (Int32.toNatClampNeg a5)) m hg
theorem s_X1_addSize_18 {w : rf_w} {K : rf_K} {r : rf_m} (C : rf_Ctx 1 cX1_addSize 8 3 (rf_sh w) K) (hE : rf_End none K (rf_sh w) 0 0 none (rf_MM w r)) (n : Nat) : ∀ (a0 : Nat) (a1 : Nat) (a2 : Int64) (a4 : Int32) (a5 : Int32) (m : rf_m), g_X1_addSize_18 w n a0 a1 a2 a4 a5 m = some r → rf_V 8 (rf_sh w) K 0 0 18 ([(0, .ref a0), (1, .ref a1), (2, .long a2), (4, .int a4), (5, .int a5)], [], rf_MM w m) := by
  induction n with
  | zero => intro a0 a1 a2 a4 a5 m hg; cases hg
  | succ n ih => intro a0 a1 a2 a4 a5 m hg; exact s_X1_addSize_18_b C hE ih a0 a1 a2 a4 a5 m hg
theorem c_X1_addSize {w : rf_w} {m : rf_m} {a0 : Nat} {a1 : Nat} {r : rf_m} (hg : g_X1_addSize w m a0 a1 = some r) : rf_Con j_X1_addSize 3 (rf_sh w) [.ref a0, .ref a1] (rf_MM w m) none (rf_MM w r) := by
  refine rf_con j_X1_addSize 3 ⟨by decide +kernel, rfl, Nat.le_of_ble_eq_true rfl⟩ (fun K C hE => ?_)
  unfold g_X1_addSize at hg
  show rf_V 8 (rf_sh w) K 0 0 0 ([(0, .ref a0), (1, .ref a1)], [], rf_MM w m)
  obtain ⟨q0, hg⟩ := rf_g_some hg
  obtain ⟨q1, hg⟩ := rf_g_some hg
  obtain ⟨q2, hg⟩ := rf_g_some hg
  obtain ⟨q3, hg⟩ := rf_g_some hg
  obtain ⟨q4, hg⟩ := rf_g_some hg
  obtain ⟨q5, hg⟩ := rf_g_some hg
  refine rf_seg C [(.goto_w 0, 1), (.lstore 2, 1), (.aload 0, 1)] (pc' := 3) (S' := ([(2, .long 0), (0, .ref a0), (1, .ref a1)], [.ref a0], rf_MM w m)) (by decide +kernel) rfl trivial ?_
  refine rf_d_get C 1 0 (rf_isO_of q0) (by decide +kernel) ?_
  show rf_V 8 (rf_sh w) K 0 0 6 ([(2, .long 0), (0, .ref a0), (1, .ref a1)], [.int (m.1 a0 0)], rf_MM w m)
  refine rf_seg C [(.aload 1, 1)] (pc' := 7) (S' := ([(2, .long 0), (0, .ref a0), (1, .ref a1)], [.ref a1, .int (m.1 a0 0)], rf_MM w m)) (by decide +kernel) rfl trivial ?_
  refine rf_d_get C 1 0 (rf_isO_of q3) (by decide +kernel) ?_
  show rf_V 8 (rf_sh w) K 0 0 10 ([(2, .long 0), (0, .ref a0), (1, .ref a1)], [.int (m.1 a1 0), .int (m.1 a0 0)], rf_MM w m)
  obtain ⟨y6, m6, hc6, hg⟩ := rf_b_some hg
  refine rf_calls C rf_fit0 j_max (As := [.int (m.1 a0 0), .int (m.1 a1 0)]) (rest := []) mw_max (c_max hc6) (by decide) lk_1_59 rfl rfl (Nat.le_of_ble_eq_true rfl) (by decide +kernel) ?_
  show rf_V 8 (rf_sh w) K 0 0 13 ([(2, .long 0), (0, .ref a0), (1, .ref a1)], [.int y6], rf_MM w m6)
  refine rf_seg C [(.istore 4, 2), (.iconst 0, 1), (.istore 5, 2)] (pc' := 18) (S' := ([(5, .int 0), (4, .int y6), (2, .long 0), (0, .ref a0), (1, .ref a1)], [], rf_MM w m6)) (by decide +kernel) rfl trivial ?_
  refine rf_few [3, 4, 2, 1, 0] rfl ?_
  exact s_X1_addSize_18 C hE rf_fuel a0 a1 0 y6 0 m6 hg
-- X1_addSigned
abbrev j_X1_addSigned : rf_J := (1, yX1_addSigned, cX1_addSigned, 4, none)
theorem mw_X1_addSigned : rf_mv j_X1_addSigned (rf_R 1) 2 := ⟨⟨rf_mem 67 (by decide +kernel), rf_mem 67 (by decide +kernel), rf_mem 5 (by decide +kernel), rf_mem 67 (by decide +kernel)⟩, by decide +kernel, by decide⟩
def g_X1_addSigned_13 (w : rf_w) (a0 : Nat) (a1 : Nat) (s0 : Int32) (m : rf_m) : Option (rf_m) := rf_g (rf_isO w a0 1) (rf_g (rf_isR w a0 2 (a0 + 1)) (rf_g (rf_isA w (a0 + 1) .long 10) (rf_g (rf_isO w a1 1) (rf_g (rf_isR w a1 2 (a1 + 1)) (rf_g (rf_isA w (a1 + 1) .long 10) ((if (m.1 a0 1) = s0 then rf_bv (g_X1_addSize w m a0 a1) fun m9 => some m9 else rf_b (g_X1_compareSize w m a0 a1) fun y6 m6 => (if y6 < 0 then rf_bv (g_X1_setDifference w m6 a0 a1 a0 s0) fun m7 => some m7 else rf_bv (g_X1_setDifference w m6 a0 a0 a1 (m6.1 a0 1)) fun m8 => some m8))))))))
def g_X1_addSigned (w : rf_w) (m : rf_m) (a0 : Nat) (a1 : Nat) (a2 : Int32) : Option (rf_m) := rf_g (rf_isO w a0 1) (rf_g (rf_isR w a0 2 (a0 + 1)) (rf_g (rf_isA w (a0 + 1) .long 10) (rf_g (rf_isO w a1 1) (rf_g (rf_isR w a1 2 (a1 + 1)) (rf_g (rf_isA w (a1 + 1) .long 10) ((if (m.1 a1 1) = a2 then g_X1_addSigned_13 w a0 a1 0 m else g_X1_addSigned_13 w a0 a1 1 m)))))))
theorem s_X1_addSigned_13 {w : rf_w} {K : rf_K} {r : rf_m} (C : rf_Ctx 1 cX1_addSigned 4 4 (rf_sh w) K) (hE : rf_End none K (rf_sh w) 0 0 none (rf_MM w r)) (a0 : Nat) (a1 : Nat) (s0 : Int32) (m : rf_m) (hg : g_X1_addSigned_13 w a0 a1 s0 m = some r) : rf_V 4 (rf_sh w) K 0 0 13 ([(0, .ref a0), (1, .ref a1)], [.int s0], rf_MM w m) := by
  unfold g_X1_addSigned_13 at hg
  obtain ⟨q0, hg⟩ := rf_g_some hg
  obtain ⟨q1, hg⟩ := rf_g_some hg
  obtain ⟨q2, hg⟩ := rf_g_some hg
  obtain ⟨q3, hg⟩ := rf_g_some hg
  obtain ⟨q4, hg⟩ := rf_g_some hg
  obtain ⟨q5, hg⟩ := rf_g_some hg
  refine rf_seg C [(.istore 3, 1), (.aload 0, 1)] (pc' := 15) (S' := ([(3, .int s0), (0, .ref a0), (1, .ref a1)], [.ref a0], rf_MM w m)) (by decide +kernel) rfl trivial ?_
  refine rf_d_get C 1 1 (rf_isO_of q0) (by decide +kernel) ?_
  show rf_V 4 (rf_sh w) K 0 0 18 ([(3, .int s0), (0, .ref a0), (1, .ref a1)], [.int (m.1 a0 1)], rf_MM w m)
  refine rf_seg C [(.iload 3, 1)] (pc' := 19) (S' := ([(3, .int s0), (0, .ref a0), (1, .ref a1)], [.int s0, .int (m.1 a0 1)], rf_MM w m)) (by decide +kernel) rfl trivial ?_
  refine rf_icmp_ne C 11 30 (by decide +kernel) (fun hc => ?_) (fun hc => ?_)
  · replace hg := (if_neg hc).symm.trans hg
    refine rf_seg C [(.aload 0, 1), (.aload 1, 1)] (pc' := 32) (S' := ([(3, .int s0), (0, .ref a0), (1, .ref a1)], [.ref a1, .ref a0], rf_MM w m)) (by decide +kernel) rfl trivial ?_
    obtain ⟨y6, m6, hc6, hg⟩ := rf_b_some hg
    refine rf_callv C rf_fit0 j_X1_compareSize (ci := 1) (As := [.ref a1]) (rest := []) mw_X1_compareSize (c_X1_compareSize hc6) (by decide) (rf_isO_of q0) (by decide) lk_1_51 rfl rfl (Nat.le_of_ble_eq_true rfl) (by decide +kernel) ?_
    show rf_V 4 (rf_sh w) K 0 0 35 ([(3, .int s0), (0, .ref a0), (1, .ref a1)], [.int y6], rf_MM w m6)
    refine rf_if_lt C 16 51 (by decide +kernel) (fun hc => ?_) (fun hc => ?_)
    · replace hg := (if_pos hc).symm.trans hg
      refine rf_seg C [(.aload 0, 1), (.aload 1, 1), (.aload 0, 1), (.iload 3, 1)] (pc' := 55) (S' := ([(3, .int s0), (0, .ref a0), (1, .ref a1)], [.int s0, .ref a0, .ref a1, .ref a0], rf_MM w m6)) (by decide +kernel) rfl trivial ?_
      obtain ⟨m7, hc7, hg⟩ := rf_bv_some hg
      refine rf_callv C rf_fit0 j_X1_setDifference (ci := 1) (As := [.ref a1, .ref a0, .int s0]) (rest := []) mw_X1_setDifference (c_X1_setDifference hc7) (by decide) (rf_isO_of q0) (by decide) lk_1_55 rfl rfl (Nat.le_of_ble_eq_true rfl) (by decide +kernel) ?_
      show rf_V 4 (rf_sh w) K 0 0 58 ([(3, .int s0), (0, .ref a0), (1, .ref a1)], [], rf_MM w m7)
      obtain rfl := Option.some.inj hg
      exact rf_vret C hE (by decide +kernel)
    · replace hg := (if_neg hc).symm.trans hg
      refine rf_seg C [(.aload 0, 1), (.aload 0, 1), (.aload 1, 1), (.aload 0, 1)] (pc' := 42) (S' := ([(3, .int s0), (0, .ref a0), (1, .ref a1)], [.ref a0, .ref a1, .ref a0, .ref a0], rf_MM w m6)) (by decide +kernel) rfl trivial ?_
      refine rf_d_get C 1 1 (rf_isO_of q0) (by decide +kernel) ?_
      show rf_V 4 (rf_sh w) K 0 0 45 ([(3, .int s0), (0, .ref a0), (1, .ref a1)], [.int (m6.1 a0 1), .ref a1, .ref a0, .ref a0], rf_MM w m6)
      obtain ⟨m8, hc8, hg⟩ := rf_bv_some hg
      refine rf_callv C rf_fit0 j_X1_setDifference (ci := 1) (As := [.ref a0, .ref a1, .int (m6.1 a0 1)]) (rest := []) mw_X1_setDifference (c_X1_setDifference hc8) (by decide) (rf_isO_of q0) (by decide) lk_1_55 rfl rfl (Nat.le_of_ble_eq_true rfl) (by decide +kernel) ?_
      show rf_V 4 (rf_sh w) K 0 0 48 ([(3, .int s0), (0, .ref a0), (1, .ref a1)], [], rf_MM w m8)
      refine rf_goto C 10 58 (by decide +kernel) ?_
      obtain rfl := Option.some.inj hg
      exact rf_vret C hE (by decide +kernel)
  · replace hg := (if_pos hc).symm.trans hg
    refine rf_seg C [(.aload 0, 1), (.aload 1, 1)] (pc' := 24) (S' := ([(3, .int s0), (0, .ref a0), (1, .ref a1)], [.ref a1, .ref a0], rf_MM w m)) (by decide +kernel) rfl trivial ?_
    obtain ⟨m9, hc9, hg⟩ := rf_bv_some hg
    refine rf_callv C rf_fit0 j_X1_addSize (ci := 1) (As := [.ref a1]) (rest := []) mw_X1_addSize (c_X1_addSize hc9) (by decide) (rf_isO_of q0) (by decide) lk_1_47 rfl rfl (Nat.le_of_ble_eq_true rfl) (by decide +kernel) ?_
    show rf_V 4 (rf_sh w) K 0 0 27 ([(3, .int s0), (0, .ref a0), (1, .ref a1)], [], rf_MM w m9)
    refine rf_goto C 31 58 (by decide +kernel) ?_
    obtain rfl := Option.some.inj hg
    exact rf_vret C hE (by decide +kernel)
theorem c_X1_addSigned {w : rf_w} {m : rf_m} {a0 : Nat} {a1 : Nat} {a2 : Int32} {r : rf_m} (hg : g_X1_addSigned w m a0 a1 a2 = some r) : rf_Con j_X1_addSigned 4 (rf_sh w) [.ref a0, .ref a1, .int a2] (rf_MM w m) none (rf_MM w r) := by
  refine rf_con j_X1_addSigned 4 ⟨by decide +kernel, rfl, Nat.le_of_ble_eq_true rfl⟩ (fun K C hE => ?_)
  unfold g_X1_addSigned at hg
  show rf_V 4 (rf_sh w) K 0 0 0 ([(0, .ref a0), (1, .ref a1), (2, .int a2)], [], rf_MM w m)
  obtain ⟨q0, hg⟩ := rf_g_some hg
  obtain ⟨q1, hg⟩ := rf_g_some hg
  obtain ⟨q2, hg⟩ := rf_g_some hg
  obtain ⟨q3, hg⟩ := rf_g_some hg
  obtain ⟨q4, hg⟩ := rf_g_some hg
  obtain ⟨q5, hg⟩ := rf_g_some hg
  refine rf_seg C [(.aload 1, 1)] (pc' := 1) (S' := ([(0, .ref a0), (1, .ref a1), (2, .int a2)], [.ref a1], rf_MM w m)) (by decide +kernel) rfl trivial ?_
  refine rf_d_get C 1 1 (rf_isO_of q3) (by decide +kernel) ?_
  show rf_V 4 (rf_sh w) K 0 0 4 ([(0, .ref a0), (1, .ref a1), (2, .int a2)], [.int (m.1 a1 1)], rf_MM w m)
  refine rf_seg C [(.iload 2, 1)] (pc' := 5) (S' := ([(0, .ref a0), (1, .ref a1), (2, .int a2)], [.int a2, .int (m.1 a1 1)], rf_MM w m)) (by decide +kernel) rfl trivial ?_
  refine rf_icmp_eq C 7 12 (by decide +kernel) (fun hc => ?_) (fun hc => ?_)
  · replace hg := (if_pos hc).symm.trans hg
    refine rf_seg C [(.iconst 0, 1)] (pc' := 13) (S' := ([(0, .ref a0), (1, .ref a1), (2, .int a2)], [.int 0], rf_MM w m)) (by decide +kernel) rfl trivial ?_
    refine rf_few [0, 1] rfl ?_
    exact s_X1_addSigned_13 C hE a0 a1 0 m hg
  · replace hg := (if_neg hc).symm.trans hg
    refine rf_seg C [(.iconst 1, 1)] (pc' := 9) (S' := ([(0, .ref a0), (1, .ref a1), (2, .int a2)], [.int 1], rf_MM w m)) (by decide +kernel) rfl trivial ?_
    refine rf_goto C 4 13 (by decide +kernel) ?_
    refine rf_few [0, 1] rfl ?_
    exact s_X1_addSigned_13 C hE a0 a1 1 m hg
-- X1_shiftDown
abbrev j_X1_shiftDown : rf_J := (1, yX1_shiftDown, cX1_shiftDown, 6, none)
theorem mw_X1_shiftDown : rf_mv j_X1_shiftDown (rf_R 1) 2 := ⟨⟨rf_mem 69 (by decide +kernel), rf_mem 69 (by decide +kernel), rf_mem 5 (by decide +kernel), rf_mem 69 (by decide +kernel)⟩, by decide +kernel, by decide⟩
def g_X1_shiftDown_26 (w : rf_w) (rec2 : Nat → Int32 → Int32 → Int32 → rf_m → Option (rf_m)) (a0 : Nat) (a1 : Int32) (a2 : Int32) (a3 : Int32) (s0 : Int64) (m : rf_m) : Option (rf_m) := rf_g (rf_isO w a0 1) (rf_g (rf_isR w a0 2 (a0 + 1)) (rf_g (rf_isA w (a0 + 1) .long 10) (rf_g (rf_in a3 10) (rf_g (rf_in a3 10) (rec2 a0 a1 a2 (a3 + 1) (rf_l m (a0 + 1) (Int32.toNatClampNeg a3) ((((s0 <<< (Int32.toInt64 30 &&& 63)) ||| (m.2 (a0 + 1) (Int32.toNatClampNeg a3))) >>> (Int32.toInt64 a2 &&& 63)) &&& 1073741823)))))))
def g_X1_shiftDown_2_b (w : rf_w) (rec2 : Nat → Int32 → Int32 → Int32 → rf_m → Option (rf_m)) (a0 : Nat) (a1 : Int32) (a2 : Int32) (a3 : Int32) (m : rf_m) : Option (rf_m) := rf_g (rf_isO w a0 1) (rf_g (rf_isR w a0 2 (a0 + 1)) (rf_g (rf_isA w (a0 + 1) .long 10) ((if a1 ≤ a3 then rf_bv (g_X1_settle w m a0 a1 (m.1 a0 1)) fun m3 => some m3 else (if a1 ≤ (a3 + 1) then g_X1_shiftDown_26 w rec2 a0 a1 a2 a3 0 m else rf_g (rf_in (a3 + 1) 10) (g_X1_shiftDown_26 w rec2 a0 a1 a2 a3 (m.2 (a0 + 1) (Int32.toNatClampNeg (a3 + 1))) m))))))
def g_X1_shiftDown_2 (w : rf_w) : Nat → Nat → Int32 → Int32 → Int32 → rf_m → Option (rf_m)
  | 0, _, _, _, _, _ => none
  | n + 1, a0, a1, a2, a3, m => g_X1_shiftDown_2_b w (g_X1_shiftDown_2 w n) a0 a1 a2 a3 m
def g_X1_shiftDown (w : rf_w) (m : rf_m) (a0 : Nat) (a1 : Int32) (a2 : Int32) : Option (rf_m) := rf_g (rf_isO w a0 1) (rf_g (rf_isR w a0 2 (a0 + 1)) (rf_g (rf_isA w (a0 + 1) .long 10) (g_X1_shiftDown_2 w rf_fuel a0 a1 a2 0 m)))
theorem s_X1_shiftDown_26 {w : rf_w} {K : rf_K} {r : rf_m} (C : rf_Ctx 1 cX1_shiftDown 6 3 (rf_sh w) K) (hE : rf_End none K (rf_sh w) 0 0 none (rf_MM w r)) {rec2 : Nat → Int32 → Int32 → Int32 → rf_m → Option (rf_m)} (hr2 : ∀ (a0 : Nat) (a1 : Int32) (a2 : Int32) (a3 : Int32) (m : rf_m), rec2 a0 a1 a2 a3 m = some r → rf_V 6 (rf_sh w) K 0 0 2 ([(0, .ref a0), (1, .int a1), (2, .int a2), (3, .int a3)], [], rf_MM w m)) (a0 : Nat) (a1 : Int32) (a2 : Int32) (a3 : Int32) (s0 : Int64) (m : rf_m) (hg : g_X1_shiftDown_26 w rec2 a0 a1 a2 a3 s0 m = some r) : rf_V 6 (rf_sh w) K 0 0 26 ([(0, .ref a0), (1, .int a1), (2, .int a2), (3, .int a3)], [.long s0], rf_MM w m) := by
  unfold g_X1_shiftDown_26 at hg
  obtain ⟨q0, hg⟩ := rf_g_some hg
  obtain ⟨q1, hg⟩ := rf_g_some hg
  obtain ⟨q2, hg⟩ := rf_g_some hg
  refine rf_seg C [(.lstore 4, 2), (.aload 0, 1)] (pc' := 29) (S' := ([(4, .long s0), (0, .ref a0), (1, .int a1), (2, .int a2), (3, .int a3)], [.ref a0], rf_MM w m)) (by decide +kernel) rfl trivial ?_
  refine rf_d_getr C 1 2 (rf_isO_of q0) rfl (rf_isR_of q1) (by decide +kernel) ?_
  show rf_V 6 (rf_sh w) K 0 0 32 ([(4, .long s0), (0, .ref a0), (1, .int a1), (2, .int a2), (3, .int a3)], [.ref (a0 + 1)], rf_MM w m)
  refine rf_seg C [(.iload 3, 1), (.lload 4, 2), (.iconst 30, 2), (.lshl, 1), (.aload 0, 1)] (pc' := 39) (S' := ([(4, .long s0), (0, .ref a0), (1, .int a1), (2, .int a2), (3, .int a3)], [.ref a0, .long (s0 <<< (Int32.toInt64 30 &&& 63)), .int a3, .ref (a0 + 1)], rf_MM w m)) (by decide +kernel) rfl trivial ?_
  refine rf_d_getr C 1 2 (rf_isO_of q0) rfl (rf_isR_of q1) (by decide +kernel) ?_
  show rf_V 6 (rf_sh w) K 0 0 42 ([(4, .long s0), (0, .ref a0), (1, .int a1), (2, .int a2), (3, .int a3)], [.ref (a0 + 1), .long (s0 <<< (Int32.toInt64 30 &&& 63)), .int a3, .ref (a0 + 1)], rf_MM w m)
  refine rf_seg C [(.iload 3, 1)] (pc' := 43) (S' := ([(4, .long s0), (0, .ref a0), (1, .int a1), (2, .int a2), (3, .int a3)], [.int a3, .ref (a0 + 1), .long (s0 <<< (Int32.toInt64 30 &&& 63)), .int a3, .ref (a0 + 1)], rf_MM w m)) (by decide +kernel) rfl trivial ?_
  obtain ⟨q3, hg⟩ := rf_g_some hg
  refine rf_d_laload C (rf_isA_of q2) (rf_in_of q3) (by decide +kernel) ?_
  show rf_V 6 (rf_sh w) K 0 0 44 ([(4, .long s0), (0, .ref a0), (1, .int a1), (2, .int a2), (3, .int a3)], [.long (m.2 (a0 + 1) (Int32.toNatClampNeg a3)), .long (s0 <<< (Int32.toInt64 30 &&& 63)), .int a3, .ref (a0 + 1)], rf_MM w m)
  refine rf_seg C [(.lor, 1), (.iload 2, 1), (.lshr, 1), (.goto_w 1073741823, 3), (.land, 1)] (pc' := 51) (S' := ([(4, .long s0), (0, .ref a0), (1, .int a1), (2, .int a2), (3, .int a3)], [.long ((((s0 <<< (Int32.toInt64 30 &&& 63)) ||| (m.2 (a0 + 1) (Int32.toNatClampNeg a3))) >>> (Int32.toInt64 a2 &&& 63)) &&& 1073741823), .int a3, .ref (a0 + 1)], rf_MM w m)) (by decide +kernel) rfl trivial ?_
  obtain ⟨q4, hg⟩ := rf_g_some hg
  refine rf_d_lastore C (rf_isA_of q2) (rf_in_of q4) (by decide +kernel) ?_
  show rf_V 6 (rf_sh w) K 0 0 52 ([(4, .long s0), (0, .ref a0), (1, .int a1), (2, .int a2), (3, .int a3)], [], rf_MM w (rf_l m (a0 + 1) (Int32.toNatClampNeg a3) ((((s0 <<< (Int32.toInt64 30 &&& 63)) ||| (m.2 (a0 + 1) (Int32.toNatClampNeg a3))) >>> (Int32.toInt64 a2 &&& 63)) &&& 1073741823)))
  refine rf_seg C [(.iinc 3 1, 3)] (pc' := 55) (S' := ([(3, .int (a3 + 1)), (4, .long s0), (0, .ref a0), (1, .int a1), (2, .int a2)], [], rf_MM w (rf_l m (a0 + 1) (Int32.toNatClampNeg a3) ((((s0 <<< (Int32.toInt64 30 &&& 63)) ||| (m.2 (a0 + 1) (Int32.toNatClampNeg a3))) >>> (Int32.toInt64 a2 &&& 63)) &&& 1073741823)))) (by decide +kernel) rfl trivial ?_
  refine rf_goto C (-53) 2 (by decide +kernel) ?_
  refine rf_few [2, 3, 4, 0] rfl ?_
  exact hr2 a0 a1 a2 (a3 + 1) (rf_l m (a0 + 1) (Int32.toNatClampNeg a3) ((((s0 <<< (Int32.toInt64 30 &&& 63)) ||| (m.2 (a0 + 1) (Int32.toNatClampNeg a3))) >>> (Int32.toInt64 a2 &&& 63)) &&& 1073741823)) hg
theorem s_X1_shiftDown_2_b {w : rf_w} {K : rf_K} {r : rf_m} (C : rf_Ctx 1 cX1_shiftDown 6 3 (rf_sh w) K) (hE : rf_End none K (rf_sh w) 0 0 none (rf_MM w r)) {rec2 : Nat → Int32 → Int32 → Int32 → rf_m → Option (rf_m)} (hr2 : ∀ (a0 : Nat) (a1 : Int32) (a2 : Int32) (a3 : Int32) (m : rf_m), rec2 a0 a1 a2 a3 m = some r → rf_V 6 (rf_sh w) K 0 0 2 ([(0, .ref a0), (1, .int a1), (2, .int a2), (3, .int a3)], [], rf_MM w m)) (a0 : Nat) (a1 : Int32) (a2 : Int32) (a3 : Int32) (m : rf_m) (hg : g_X1_shiftDown_2_b w rec2 a0 a1 a2 a3 m = some r) : rf_V 6 (rf_sh w) K 0 0 2 ([(0, .ref a0), (1, .int a1), (2, .int a2), (3, .int a3)], [], rf_MM w m) := by
  unfold g_X1_shiftDown_2_b at hg
  obtain ⟨q0, hg⟩ := rf_g_some hg
  obtain ⟨q1, hg⟩ := rf_g_some hg
  obtain ⟨q2, hg⟩ := rf_g_some hg
  refine rf_seg C [(.iload 3, 1), (.iload 1, 1)] (pc' := 4) (S' := ([(0, .ref a0), (1, .int a1), (2, .int a2), (3, .int a3)], [.int a1, .int a3], rf_MM w m)) (by decide +kernel) rfl trivial ?_
  refine rf_icmp_ge C 54 58 (by decide +kernel) (fun hc => ?_) (fun hc => ?_)
  · replace hg := (if_pos hc).symm.trans hg
    refine rf_seg C [(.aload 0, 1), (.iload 1, 1), (.aload 0, 1)] (pc' := 61) (S' := ([(0, .ref a0), (1, .int a1), (2, .int a2), (3, .int a3)], [.ref a0, .int a1, .ref a0], rf_MM w m)) (by decide +kernel) rfl trivial ?_
    refine rf_d_get C 1 1 (rf_isO_of q0) (by decide +kernel) ?_
    show rf_V 6 (rf_sh w) K 0 0 64 ([(0, .ref a0), (1, .int a1), (2, .int a2), (3, .int a3)], [.int (m.1 a0 1), .int a1, .ref a0], rf_MM w m)
    obtain ⟨m3, hc3, hg⟩ := rf_bv_some hg
    refine rf_callv C rf_fit0 j_X1_settle (ci := 1) (As := [.int a1, .int (m.1 a0 1)]) (rest := []) mw_X1_settle (c_X1_settle hc3) (by decide) (rf_isO_of q0) (by decide) lk_1_43 rfl rfl (Nat.le_of_ble_eq_true rfl) (by decide +kernel) ?_
    show rf_V 6 (rf_sh w) K 0 0 67 ([(0, .ref a0), (1, .int a1), (2, .int a2), (3, .int a3)], [], rf_MM w m3)
    obtain rfl := Option.some.inj hg
    exact rf_vret C hE (by decide +kernel)
  · replace hg := (if_neg hc).symm.trans hg
    refine rf_seg C [(.iload 3, 1), (.iconst 1, 1), (.iadd, 1), (.iload 1, 1)] (pc' := 11) (S' := ([(0, .ref a0), (1, .int a1), (2, .int a2), (3, .int a3)], [.int a1, .int (a3 + 1)], rf_MM w m)) (by decide +kernel) rfl trivial ?_
    refine rf_icmp_ge C 14 25 (by decide +kernel) (fun hc => ?_) (fun hc => ?_)
    · replace hg := (if_pos hc).symm.trans hg
      refine rf_seg C [(.goto_w 0, 1)] (pc' := 26) (S' := ([(0, .ref a0), (1, .int a1), (2, .int a2), (3, .int a3)], [.long 0], rf_MM w m)) (by decide +kernel) rfl trivial ?_
      refine rf_few [0, 1, 2, 3] rfl ?_
      exact s_X1_shiftDown_26 C hE hr2 a0 a1 a2 a3 0 m hg
    · replace hg := (if_neg hc).symm.trans hg
      refine rf_seg C [(.aload 0, 1)] (pc' := 15) (S' := ([(0, .ref a0), (1, .int a1), (2, .int a2), (3, .int a3)], [.ref a0], rf_MM w m)) (by decide +kernel) rfl trivial ?_
      refine rf_d_getr C 1 2 (rf_isO_of q0) rfl (rf_isR_of q1) (by decide +kernel) ?_
      show rf_V 6 (rf_sh w) K 0 0 18 ([(0, .ref a0), (1, .int a1), (2, .int a2), (3, .int a3)], [.ref (a0 + 1)], rf_MM w m)
      refine rf_seg C [(.iload 3, 1), (.iconst 1, 1), (.iadd, 1)] (pc' := 21) (S' := ([(0, .ref a0), (1, .int a1), (2, .int a2), (3, .int a3)], [.int (a3 + 1), .ref (a0 + 1)], rf_MM w m)) (by decide +kernel) rfl trivial ?_
      obtain ⟨q4, hg⟩ := rf_g_some hg
      refine rf_d_laload C (rf_isA_of q2) (rf_in_of q4) (by decide +kernel) ?_
      show rf_V 6 (rf_sh w) K 0 0 22 ([(0, .ref a0), (1, .int a1), (2, .int a2), (3, .int a3)], [.long (m.2 (a0 + 1) (Int32.toNatClampNeg (a3 + 1)))], rf_MM w m)
      refine rf_goto C 4 26 (by decide +kernel) ?_
      refine rf_few [0, 1, 2, 3] rfl ?_
      exact s_X1_shiftDown_26 C hE hr2 a0 a1 a2 a3 (m.2 (a0 + 1) (Int32.toNatClampNeg (a3 + 1))) m hg
theorem s_X1_shiftDown_2 {w : rf_w} {K : rf_K} {r : rf_m} (C : rf_Ctx 1 cX1_shiftDown 6 3 (rf_sh w) K) (hE : rf_End none K (rf_sh w) 0 0 none (rf_MM w r)) (n : Nat) : ∀ (a0 : Nat) (a1 : Int32) (a2 : Int32) (a3 : Int32) (m : rf_m), g_X1_shiftDown_2 w n a0 a1 a2 a3 m = some r → rf_V 6 (rf_sh w) K 0 0 2 ([(0, .ref a0), (1, .int a1), (2, .int a2), (3, .int a3)], [], rf_MM w m) := by
  induction n with
  | zero => intro a0 a1 a2 a3 m hg; cases hg
  | succ n ih => intro a0 a1 a2 a3 m hg; exact s_X1_shiftDown_2_b C hE ih a0 a1 a2 a3 m hg
theorem c_X1_shiftDown {w : rf_w} {m : rf_m} {a0 : Nat} {a1 : Int32} {a2 : Int32} {r : rf_m} (hg : g_X1_shiftDown w m a0 a1 a2 = some r) : rf_Con j_X1_shiftDown 3 (rf_sh w) [.ref a0, .int a1, .int a2] (rf_MM w m) none (rf_MM w r) := by
  refine rf_con j_X1_shiftDown 3 ⟨by decide +kernel, rfl, Nat.le_of_ble_eq_true rfl⟩ (fun K C hE => ?_)
  unfold g_X1_shiftDown at hg
  show rf_V 6 (rf_sh w) K 0 0 0 ([(0, .ref a0), (1, .int a1), (2, .int a2)], [], rf_MM w m)
  obtain ⟨q0, hg⟩ := rf_g_some hg
  obtain ⟨q1, hg⟩ := rf_g_some hg
  obtain ⟨q2, hg⟩ := rf_g_some hg
  refine rf_seg C [(.iconst 0, 1), (.istore 3, 1)] (pc' := 2) (S' := ([(3, .int 0), (0, .ref a0), (1, .int a1), (2, .int a2)], [], rf_MM w m)) (by decide +kernel) rfl trivial ?_
  refine rf_few [1, 2, 3, 0] rfl ?_
  exact s_X1_shiftDown_2 C hE rf_fuel a0 a1 a2 0 m hg
-- X1_addTimes
abbrev j_X1_addTimes : rf_J := (1, yX1_addTimes, cX1_addTimes, 11, (some .long))
theorem mw_X1_addTimes : rf_mv j_X1_addTimes (rf_R 1) 4 := ⟨⟨rf_mem 69 (by decide +kernel), rf_mem 69 (by decide +kernel), rf_mem 5 (by decide +kernel), rf_mem 69 (by decide +kernel)⟩, by decide +kernel, by decide⟩
def g_X1_addTimes_6_b (w : rf_w) (rec6 : Nat → Nat → Int32 → Int32 → Int64 → Int64 → Int32 → rf_m → Option (Int64 × rf_m)) (a0 : Nat) (a1 : Nat) (a2 : Int32) (a3 : Int32) (a4 : Int64) (a6 : Int64) (a8 : Int32) (m : rf_m) : Option (Int64 × rf_m) := rf_g (rf_isO w a0 1) (rf_g (rf_isR w a0 2 (a0 + 1)) (rf_g (rf_isA w (a0 + 1) .long 10) (rf_g (rf_isO w a1 1) (rf_g (rf_isR w a1 2 (a1 + 1)) (rf_g (rf_isA w (a1 + 1) .long 10) ((if a2 ≤ a8 then some (a6, m) else rf_g (rf_in (a3 + a8) 10) (rf_g (rf_in a8 10) (rf_vl (((m.2 (a0 + 1) (Int32.toNatClampNeg (a3 + a8))) + (a4 * (m.2 (a1 + 1) (Int32.toNatClampNeg a8)))) + a6) fun x8 => rf_g (rf_in (a3 + a8) 10) (rf_vl (x8 >>> (Int32.toInt64 30 &&& 63)) fun x10 => rec6 a0 a1 a2 a3 a4 x10 (a8 + 1) (rf_l m (a0 + 1) (Int32.toNatClampNeg (a3 + a8)) (x8 &&& 1073741823))))))))))))
def g_X1_addTimes_6 (w : rf_w) : Nat → Nat → Nat → Int32 → Int32 → Int64 → Int64 → Int32 → rf_m → Option (Int64 × rf_m)
  | 0, _, _, _, _, _, _, _, _ => none
  | n + 1, a0, a1, a2, a3, a4, a6, a8, m => g_X1_addTimes_6_b w (g_X1_addTimes_6 w n) a0 a1 a2 a3 a4 a6 a8 m
def g_X1_addTimes (w : rf_w) (m : rf_m) (a0 : Nat) (a1 : Nat) (a2 : Int32) (a3 : Int32) (a4 : Int64) : Option (Int64 × rf_m) := rf_g (rf_isO w a0 1) (rf_g (rf_isR w a0 2 (a0 + 1)) (rf_g (rf_isA w (a0 + 1) .long 10) (rf_g (rf_isO w a1 1) (rf_g (rf_isR w a1 2 (a1 + 1)) (rf_g (rf_isA w (a1 + 1) .long 10) (g_X1_addTimes_6 w rf_fuel a0 a1 a2 a3 a4 0 0 m))))))
theorem s_X1_addTimes_6_b {w : rf_w} {K : rf_K} {r : Int64 × rf_m} (C : rf_Ctx 1 cX1_addTimes 11 1 (rf_sh w) K) (hE : rf_End (some .long) K (rf_sh w) 0 0 (some (.long r.1)) (rf_MM w r.2)) {rec6 : Nat → Nat → Int32 → Int32 → Int64 → Int64 → Int32 → rf_m → Option (Int64 × rf_m)} (hr6 : ∀ (a0 : Nat) (a1 : Nat) (a2 : Int32) (a3 : Int32) (a4 : Int64) (a6 : Int64) (a8 : Int32) (m : rf_m), rec6 a0 a1 a2 a3 a4 a6 a8 m = some r → rf_V 11 (rf_sh w) K 0 0 6 ([(0, .ref a0), (1, .ref a1), (2, .int a2), (3, .int a3), (4, .long a4), (6, .long a6), (8, .int a8)], [], rf_MM w m)) (a0 : Nat) (a1 : Nat) (a2 : Int32) (a3 : Int32) (a4 : Int64) (a6 : Int64) (a8 : Int32) (m : rf_m) (hg : g_X1_addTimes_6_b w rec6 a0 a1 a2 a3 a4 a6 a8 m = some r) : rf_V 11 (rf_sh w) K 0 0 6 ([(0, .ref a0), (1, .ref a1), (2, .int a2), (3, .int a3), (4, .long a4), (6, .long a6), (8, .int a8)], [], rf_MM w m) := by
  unfold g_X1_addTimes_6_b at hg
  obtain ⟨q0, hg⟩ := rf_g_some hg
  obtain ⟨q1, hg⟩ := rf_g_some hg
  obtain ⟨q2, hg⟩ := rf_g_some hg
  obtain ⟨q3, hg⟩ := rf_g_some hg
  obtain ⟨q4, hg⟩ := rf_g_some hg
  obtain ⟨q5, hg⟩ := rf_g_some hg
  refine rf_seg C [(.iload 8, 2), (.iload 2, 1)] (pc' := 9) (S' := ([(0, .ref a0), (1, .ref a1), (2, .int a2), (3, .int a3), (4, .long a4), (6, .long a6), (8, .int a8)], [.int a2, .int a8], rf_MM w m)) (by decide +kernel) rfl trivial ?_
  refine rf_icmp_ge C 56 65 (by decide +kernel) (fun hc => ?_) (fun hc => ?_)
  · replace hg := (if_pos hc).symm.trans hg
    refine rf_seg C [(.lload 6, 2)] (pc' := 67) (S' := ([(0, .ref a0), (1, .ref a1), (2, .int a2), (3, .int a3), (4, .long a4), (6, .long a6), (8, .int a8)], [.long a6], rf_MM w m)) (by decide +kernel) rfl trivial ?_
    obtain rfl := Option.some.inj hg
    exact rf_lret C hE (by decide +kernel)
  · replace hg := (if_neg hc).symm.trans hg
    refine rf_seg C [(.aload 0, 1)] (pc' := 13) (S' := ([(0, .ref a0), (1, .ref a1), (2, .int a2), (3, .int a3), (4, .long a4), (6, .long a6), (8, .int a8)], [.ref a0], rf_MM w m)) (by decide +kernel) rfl trivial ?_
    refine rf_d_getr C 1 2 (rf_isO_of q0) rfl (rf_isR_of q1) (by decide +kernel) ?_
    show rf_V 11 (rf_sh w) K 0 0 16 ([(0, .ref a0), (1, .ref a1), (2, .int a2), (3, .int a3), (4, .long a4), (6, .long a6), (8, .int a8)], [.ref (a0 + 1)], rf_MM w m)
    refine rf_seg C [(.iload 3, 1), (.iload 8, 2), (.iadd, 1)] (pc' := 20) (S' := ([(0, .ref a0), (1, .ref a1), (2, .int a2), (3, .int a3), (4, .long a4), (6, .long a6), (8, .int a8)], [.int (a3 + a8), .ref (a0 + 1)], rf_MM w m)) (by decide +kernel) rfl trivial ?_
    obtain ⟨q6, hg⟩ := rf_g_some hg
    refine rf_d_laload C (rf_isA_of q2) (rf_in_of q6) (by decide +kernel) ?_
    show rf_V 11 (rf_sh w) K 0 0 21 ([(0, .ref a0), (1, .ref a1), (2, .int a2), (3, .int a3), (4, .long a4), (6, .long a6), (8, .int a8)], [.long (m.2 (a0 + 1) (Int32.toNatClampNeg (a3 + a8)))], rf_MM w m)
    refine rf_seg C [(.lload 4, 2), (.aload 1, 1)] (pc' := 24) (S' := ([(0, .ref a0), (1, .ref a1), (2, .int a2), (3, .int a3), (4, .long a4), (6, .long a6), (8, .int a8)], [.ref a1, .long a4, .long (m.2 (a0 + 1) (Int32.toNatClampNeg (a3 + a8)))], rf_MM w m)) (by decide +kernel) rfl trivial ?_
    refine rf_d_getr C 1 2 (rf_isO_of q3) rfl (rf_isR_of q4) (by decide +kernel) ?_
    show rf_V 11 (rf_sh w) K 0 0 27 ([(0, .ref a0), (1, .ref a1), (2, .int a2), (3, .int a3), (4, .long a4), (6, .long a6), (8, .int a8)], [.ref (a1 + 1), .long a4, .long (m.2 (a0 + 1) (Int32.toNatClampNeg (a3 + a8)))], rf_MM w m)
    refine rf_seg C [(.iload 8, 2)] (pc' := 29) (S' := ([(0, .ref a0), (1, .ref a1), (2, .int a2), (3, .int a3), (4, .long a4), (6, .long a6), (8, .int a8)], [.int a8, .ref (a1 + 1), .long a4, .long (m.2 (a0 + 1) (Int32.toNatClampNeg (a3 + a8)))], rf_MM w m)) (by decide +kernel) rfl trivial ?_
    obtain ⟨q7, hg⟩ := rf_g_some hg
    refine rf_d_laload C (rf_isA_of q5) (rf_in_of q7) (by decide +kernel) ?_
    show rf_V 11 (rf_sh w) K 0 0 30 ([(0, .ref a0), (1, .ref a1), (2, .int a2), (3, .int a3), (4, .long a4), (6, .long a6), (8, .int a8)], [.long (m.2 (a1 + 1) (Int32.toNatClampNeg a8)), .long a4, .long (m.2 (a0 + 1) (Int32.toNatClampNeg (a3 + a8)))], rf_MM w m)
    refine rf_seg C [(.lmul, 1), (.ladd, 1), (.lload 6, 2), (.ladd, 1)] (pc' := 35) (S' := ([(0, .ref a0), (1, .ref a1), (2, .int a2), (3, .int a3), (4, .long a4), (6, .long a6), (8, .int a8)], [.long (((m.2 (a0 + 1) (Int32.toNatClampNeg (a3 + a8))) + (a4 * (m.2 (a1 + 1) (Int32.toNatClampNeg a8)))) + a6)], rf_MM w m)) (by decide +kernel) rfl trivial ?_
    obtain ⟨x8, hx8, hg⟩ := rf_vl_some hg
    refine rf_vl_top hx8 ?_
    refine rf_seg C [(.lstore 9, 2), (.aload 0, 1)] (pc' := 38) (S' := ([(9, .long x8), (0, .ref a0), (1, .ref a1), (2, .int a2), (3, .int a3), (4, .long a4), (6, .long a6), (8, .int a8)], [.ref a0], rf_MM w m)) (by decide +kernel) rfl trivial ?_
    refine rf_d_getr C 1 2 (rf_isO_of q0) rfl (rf_isR_of q1) (by decide +kernel) ?_
    show rf_V 11 (rf_sh w) K 0 0 41 ([(9, .long x8), (0, .ref a0), (1, .ref a1), (2, .int a2), (3, .int a3), (4, .long a4), (6, .long a6), (8, .int a8)], [.ref (a0 + 1)], rf_MM w m)
    refine rf_seg C [(.iload 3, 1), (.iload 8, 2), (.iadd, 1), (.lload 9, 2), (.goto_w 1073741823, 3), (.land, 1)] (pc' := 51) (S' := ([(9, .long x8), (0, .ref a0), (1, .ref a1), (2, .int a2), (3, .int a3), (4, .long a4), (6, .long a6), (8, .int a8)], [.long (x8 &&& 1073741823), .int (a3 + a8), .ref (a0 + 1)], rf_MM w m)) (by decide +kernel) rfl trivial ?_
    obtain ⟨q9, hg⟩ := rf_g_some hg
    refine rf_d_lastore C (rf_isA_of q2) (rf_in_of q9) (by decide +kernel) ?_
    show rf_V 11 (rf_sh w) K 0 0 52 ([(9, .long x8), (0, .ref a0), (1, .ref a1), (2, .int a2), (3, .int a3), (4, .long a4), (6, .long a6), (8, .int a8)], [], rf_MM w (rf_l m (a0 + 1) (Int32.toNatClampNeg (a3 + a8)) (x8 &&& 1073741823)))
    refine rf_seg C [(.lload 9, 2), (.iconst 30, 2), (.lshr, 1)] (pc' := 57) (S' := ([(9, .long x8), (0, .ref a0), (1, .ref a1), (2, .int a2), (3, .int a3), (4, .long a4), (6, .long a6), (8, .int a8)], [.long (x8 >>> (Int32.toInt64 30 &&& 63))], rf_MM w (rf_l m (a0 + 1) (Int32.toNatClampNeg (a3 + a8)) (x8 &&& 1073741823)))) (by decide +kernel) rfl trivial ?_
    obtain ⟨x10, hx10, hg⟩ := rf_vl_some hg
    refine rf_vl_top hx10 ?_
    refine rf_seg C [(.lstore 6, 2), (.iinc 8 1, 3)] (pc' := 62) (S' := ([(8, .int (a8 + 1)), (6, .long x10), (9, .long x8), (0, .ref a0), (1, .ref a1), (2, .int a2), (3, .int a3), (4, .long a4)], [], rf_MM w (rf_l m (a0 + 1) (Int32.toNatClampNeg (a3 + a8)) (x8 &&& 1073741823)))) (by decide +kernel) rfl trivial ?_
    refine rf_goto C (-56) 6 (by decide +kernel) ?_
    refine rf_few [3, 4, 5, 6, 7, 1, 0] rfl ?_
    exact hr6 a0 a1 a2 a3 a4 x10 (a8 + 1) (rf_l m (a0 + 1) (Int32.toNatClampNeg (a3 + a8)) (x8 &&& 1073741823)) hg
theorem s_X1_addTimes_6 {w : rf_w} {K : rf_K} {r : Int64 × rf_m} (C : rf_Ctx 1 cX1_addTimes 11 1 (rf_sh w) K) (hE : rf_End (some .long) K (rf_sh w) 0 0 (some (.long r.1)) (rf_MM w r.2)) (n : Nat) : ∀ (a0 : Nat) (a1 : Nat) (a2 : Int32) (a3 : Int32) (a4 : Int64) (a6 : Int64) (a8 : Int32) (m : rf_m), g_X1_addTimes_6 w n a0 a1 a2 a3 a4 a6 a8 m = some r → rf_V 11 (rf_sh w) K 0 0 6 ([(0, .ref a0), (1, .ref a1), (2, .int a2), (3, .int a3), (4, .long a4), (6, .long a6), (8, .int a8)], [], rf_MM w m) := by
  induction n with
  | zero => intro a0 a1 a2 a3 a4 a6 a8 m hg; cases hg
  | succ n ih => intro a0 a1 a2 a3 a4 a6 a8 m hg; exact s_X1_addTimes_6_b C hE ih a0 a1 a2 a3 a4 a6 a8 m hg
theorem c_X1_addTimes {w : rf_w} {m : rf_m} {a0 : Nat} {a1 : Nat} {a2 : Int32} {a3 : Int32} {a4 : Int64} {r : Int64 × rf_m} (hg : g_X1_addTimes w m a0 a1 a2 a3 a4 = some r) : rf_Con j_X1_addTimes 1 (rf_sh w) [.ref a0, .ref a1, .int a2, .int a3, .long a4] (rf_MM w m) (some (.long r.1)) (rf_MM w r.2) := by
  refine rf_con j_X1_addTimes 1 ⟨by decide +kernel, rfl, Nat.le_of_ble_eq_true rfl⟩ (fun K C hE => ?_)
  unfold g_X1_addTimes at hg
  show rf_V 11 (rf_sh w) K 0 0 0 ([(0, .ref a0), (1, .ref a1), (2, .int a2), (3, .int a3), (4, .long a4)], [], rf_MM w m)
  obtain ⟨q0, hg⟩ := rf_g_some hg
  obtain ⟨q1, hg⟩ := rf_g_some hg
  obtain ⟨q2, hg⟩ := rf_g_some hg
  obtain ⟨q3, hg⟩ := rf_g_some hg
  obtain ⟨q4, hg⟩ := rf_g_some hg
  obtain ⟨q5, hg⟩ := rf_g_some hg
  refine rf_seg C [(.goto_w 0, 1), (.lstore 6, 2), (.iconst 0, 1), (.istore 8, 2)] (pc' := 6) (S' := ([(8, .int 0), (6, .long 0), (0, .ref a0), (1, .ref a1), (2, .int a2), (3, .int a3), (4, .long a4)], [], rf_MM w m)) (by decide +kernel) rfl trivial ?_
  refine rf_few [2, 3, 4, 5, 6, 1, 0] rfl ?_
  exact s_X1_addTimes_6 C hE rf_fuel a0 a1 a2 a3 a4 0 0 m hg
-- minL
abbrev j_minL : rf_J := (22, Lib.MathLoose.min_long.x, Lib.MathLoose.min_long.code, 4, (some .long))
theorem mw_minL : rf_ms j_minL 2 := ⟨⟨rf_mem 30 (by decide +kernel), rf_mem 20 (by decide +kernel), rf_mem 30 (by decide +kernel)⟩, by decide +kernel, by decide⟩
def g_minL (w : rf_w) (m : rf_m) (a0 : Int64) (a2 : Int64) : Option (Int64 × rf_m) := (if (0 : Int32) < (lg_cmp a0 a2) then some (a2, m) else some (a0, m))
theorem c_minL {w : rf_w} {m : rf_m} {a0 : Int64} {a2 : Int64} {r : Int64 × rf_m} (hg : g_minL w m a0 a2 = some r) : rf_Con j_minL 1 (rf_sh w) [.long a0, .long a2] (rf_MM w m) (some (.long r.1)) (rf_MM w r.2) := by
  refine rf_con j_minL 1 ⟨by decide +kernel, rfl, Nat.le_of_ble_eq_true rfl⟩ (fun K C hE => ?_)
  unfold g_minL at hg
  show rf_V 4 (rf_sh w) K 0 0 0 ([(0, .long a0), (2, .long a2)], [], rf_MM w m)
  refine rf_seg C [(.lload 0, 1), (.lload 2, 1), (.lcmp, 1)] (pc' := 3) (S' := ([(0, .long a0), (2, .long a2)], [.int (lg_cmp a0 a2)], rf_MM w m)) (by decide +kernel) rfl trivial ?_
  refine rf_if_gt C 7 10 (by decide +kernel) (fun hc => ?_) (fun hc => ?_)
  · replace hg := (if_pos hc).symm.trans hg
    refine rf_seg C [(.lload 2, 1)] (pc' := 11) (S' := ([(0, .long a0), (2, .long a2)], [.long a2], rf_MM w m)) (by decide +kernel) rfl trivial ?_
    obtain rfl := Option.some.inj hg
    exact rf_lret C hE (by decide +kernel)
  · replace hg := (if_neg hc).symm.trans hg
    refine rf_seg C [(.lload 0, 1)] (pc' := 7) (S' := ([(0, .long a0), (2, .long a2)], [.long a0], rf_MM w m)) (by decide +kernel) rfl trivial ?_
    refine rf_goto C 4 11 (by decide +kernel) ?_
    obtain rfl := Option.some.inj hg
    exact rf_lret C hE (by decide +kernel)
-- X1_takeOut
abbrev j_X1_takeOut : rf_J := (1, yX1_takeOut, cX1_takeOut, 11, (some .long))
theorem mw_X1_takeOut : rf_mv j_X1_takeOut (rf_R 1) 3 := ⟨⟨rf_mem 69 (by decide +kernel), rf_mem 69 (by decide +kernel), rf_mem 5 (by decide +kernel), rf_mem 69 (by decide +kernel)⟩, by decide +kernel, by decide⟩
def g_X1_takeOut_84_b (w : rf_w) (rec84 : Nat → Nat → Int32 → Int32 → Int64 → Int64 → Int32 → rf_m → Option (Int64 × rf_m)) (a0 : Nat) (a1 : Nat) (a2 : Int32) (a3 : Int32) (a6 : Int64) (a8 : Int64) (a10 : Int32) (m : rf_m) : Option (Int64 × rf_m) := rf_g (rf_isO w a0 1) (rf_g (rf_isR w a0 2 (a0 + 1)) (rf_g (rf_isA w (a0 + 1) .long 10) (rf_g (rf_isO w a1 1) (rf_g (rf_isR w a1 2 (a1 + 1)) (rf_g (rf_isA w (a1 + 1) .long 10) ((if 2 ≤ a10 then rf_g (rf_in (a3 + a2) 10) (some (a6, rf_l m (a0 + 1) (Int32.toNatClampNeg (a3 + a2)) a8)) else (if (0 : Int32) ≤ (lg_cmp a8 0) then rf_g (rf_in (a3 + a2) 10) (some (a6, rf_l m (a0 + 1) (Int32.toNatClampNeg (a3 + a2)) a8)) else rf_b (g_X1_addTimes w m a0 a1 a2 a3 1) fun y8 m8 => rec84 a0 a1 a2 a3 (a6 - 1) (a8 + y8) (a10 + 1) m8))))))))
def g_X1_takeOut_84 (w : rf_w) : Nat → Nat → Nat → Int32 → Int32 → Int64 → Int64 → Int32 → rf_m → Option (Int64 × rf_m)
  | 0, _, _, _, _, _, _, _, _ => none
  | n + 1, a0, a1, a2, a3, a6, a8, a10, m => g_X1_takeOut_84_b w (g_X1_takeOut_84 w n) a0 a1 a2 a3 a6 a8 a10 m
def g_X1_takeOut (w : rf_w) (m : rf_m) (a0 : Nat) (a1 : Nat) (a2 : Int32) (a3 : Int32) : Option (Int64 × rf_m) := rf_g (rf_isO w a0 1) (rf_g (rf_isR w a0 2 (a0 + 1)) (rf_g (rf_isA w (a0 + 1) .long 10) (rf_g (rf_isO w a1 1) (rf_g (rf_isR w a1 2 (a1 + 1)) (rf_g (rf_isA w (a1 + 1) .long 10) (rf_g (rf_in (a2 - 1) 10) (rf_vl (m.2 (a1 + 1) (Int32.toNatClampNeg (a2 - 1))) fun x7 => (if (lg_cmp x7 0) = 0 then some (0, m) else (if (a3 + a2) < 10 then rf_g (rf_in (a3 + a2) 10) (rf_g (rf_in ((a3 + a2) - 1) 10) (rf_g (rf_nzl x7) (rf_b (g_minL w m 1073741823 ((((m.2 (a0 + 1) (Int32.toNatClampNeg (a3 + a2))) <<< (Int32.toInt64 30 &&& 63)) ||| (m.2 (a0 + 1) (Int32.toNatClampNeg ((a3 + a2) - 1)))) / x7)) fun y11 m11 => rf_g (rf_in (a3 + a2) 10) (rf_b (g_X1_addTimes w m11 a0 a1 a2 a3 (-y11)) fun y13 m13 => rf_vl ((m11.2 (a0 + 1) (Int32.toNatClampNeg (a3 + a2))) + y13) fun x14 => g_X1_takeOut_84 w rf_fuel a0 a1 a2 a3 y11 x14 0 m13)))) else some (0, m))))))))))
theorem s_X1_takeOut_84_b {w : rf_w} {K : rf_K} {r : Int64 × rf_m} (C : rf_Ctx 1 cX1_takeOut 11 2 (rf_sh w) K) (hE : rf_End (some .long) K (rf_sh w) 0 0 (some (.long r.1)) (rf_MM w r.2)) {rec84 : Nat → Nat → Int32 → Int32 → Int64 → Int64 → Int32 → rf_m → Option (Int64 × rf_m)} (hr84 : ∀ (a0 : Nat) (a1 : Nat) (a2 : Int32) (a3 : Int32) (a6 : Int64) (a8 : Int64) (a10 : Int32) (m : rf_m), rec84 a0 a1 a2 a3 a6 a8 a10 m = some r → rf_V 11 (rf_sh w) K 0 0 84 ([(0, .ref a0), (1, .ref a1), (2, .int a2), (3, .int a3), (6, .long a6), (8, .long a8), (10, .int a10)], [], rf_MM w m)) (a0 : Nat) (a1 : Nat) (a2 : Int32) (a3 : Int32) (a6 : Int64) (a8 : Int64) (a10 : Int32) (m : rf_m) (hg : g_X1_takeOut_84_b w rec84 a0 a1 a2 a3 a6 a8 a10 m = some r) : rf_V 11 (rf_sh w) K 0 0 84 ([(0, .ref a0), (1, .ref a1), (2, .int a2), (3, .int a3), (6, .long a6), (8, .long a8), (10, .int a10)], [], rf_MM w m) := by
  unfold g_X1_takeOut_84_b at hg
  obtain ⟨q0, hg⟩ := rf_g_some hg
  obtain ⟨q1, hg⟩ := rf_g_some hg
  obtain ⟨q2, hg⟩ := rf_g_some hg
  obtain ⟨q3, hg⟩ := rf_g_some hg
  obtain ⟨q4, hg⟩ := rf_g_some hg
  obtain ⟨q5, hg⟩ := rf_g_some hg
  refine rf_seg C [(.iload 10, 2), (.iconst 2, 1)] (pc' := 87) (S' := ([(0, .ref a0), (1, .ref a1), (2, .int a2), (3, .int a3), (6, .long a6), (8, .long a8), (10, .int a10)], [.int 2, .int a10], rf_MM w m)) (by decide +kernel) rfl trivial ?_
  refine rf_icmp_ge C 35 122 (by decide +kernel) (fun hc => ?_) (fun hc => ?_)
  · replace hg := (if_pos hc).symm.trans hg
    refine rf_seg C [(.aload 0, 1)] (pc' := 123) (S' := ([(0, .ref a0), (1, .ref a1), (2, .int a2), (3, .int a3), (6, .long a6), (8, .long a8), (10, .int a10)], [.ref a0], rf_MM w m)) (by decide +kernel) rfl trivial ?_
    refine rf_d_getr C 1 2 (rf_isO_of q0) rfl (rf_isR_of q1) (by decide +kernel) ?_
    show rf_V 11 (rf_sh w) K 0 0 126 ([(0, .ref a0), (1, .ref a1), (2, .int a2), (3, .int a3), (6, .long a6), (8, .long a8), (10, .int a10)], [.ref (a0 + 1)], rf_MM w m)
    refine rf_seg C [(.iload 3, 1), (.iload 2, 1), (.iadd, 1), (.lload 8, 2)] (pc' := 131) (S' := ([(0, .ref a0), (1, .ref a1), (2, .int a2), (3, .int a3), (6, .long a6), (8, .long a8), (10, .int a10)], [.long a8, .int (a3 + a2), .ref (a0 + 1)], rf_MM w m)) (by decide +kernel) rfl trivial ?_
    obtain ⟨q6, hg⟩ := rf_g_some hg
    refine rf_d_lastore C (rf_isA_of q2) (rf_in_of q6) (by decide +kernel) ?_
    show rf_V 11 (rf_sh w) K 0 0 132 ([(0, .ref a0), (1, .ref a1), (2, .int a2), (3, .int a3), (6, .long a6), (8, .long a8), (10, .int a10)], [], rf_MM w (rf_l m (a0 + 1) (Int32.toNatClampNeg (a3 + a2)) a8))
    refine rf_seg C [(.lload 6, 2)] (pc' := 134) (S' := ([(0, .ref a0), (1, .ref a1), (2, .int a2), (3, .int a3), (6, .long a6), (8, .long a8), (10, .int a10)], [.long a6], rf_MM w (rf_l m (a0 + 1) (Int32.toNatClampNeg (a3 + a2)) a8))) (by decide +kernel) rfl trivial ?_
    obtain rfl := Option.some.inj hg
    exact rf_lret C hE (by decide +kernel)
  · replace hg := (if_neg hc).symm.trans hg
    refine rf_seg C [(.lload 8, 2), (.goto_w 0, 1), (.lcmp, 1)] (pc' := 94) (S' := ([(0, .ref a0), (1, .ref a1), (2, .int a2), (3, .int a3), (6, .long a6), (8, .long a8), (10, .int a10)], [.int (lg_cmp a8 0)], rf_MM w m)) (by decide +kernel) rfl trivial ?_
    refine rf_if_ge C 28 122 (by decide +kernel) (fun hc => ?_) (fun hc => ?_)
    · replace hg := (if_pos hc).symm.trans hg
      refine rf_seg C [(.aload 0, 1)] (pc' := 123) (S' := ([(0, .ref a0), (1, .ref a1), (2, .int a2), (3, .int a3), (6, .long a6), (8, .long a8), (10, .int a10)], [.ref a0], rf_MM w m)) (by decide +kernel) rfl trivial ?_
      refine rf_d_getr C 1 2 (rf_isO_of q0) rfl (rf_isR_of q1) (by decide +kernel) ?_
      show rf_V 11 (rf_sh w) K 0 0 126 ([(0, .ref a0), (1, .ref a1), (2, .int a2), (3, .int a3), (6, .long a6), (8, .long a8), (10, .int a10)], [.ref (a0 + 1)], rf_MM w m)
      refine rf_seg C [(.iload 3, 1), (.iload 2, 1), (.iadd, 1), (.lload 8, 2)] (pc' := 131) (S' := ([(0, .ref a0), (1, .ref a1), (2, .int a2), (3, .int a3), (6, .long a6), (8, .long a8), (10, .int a10)], [.long a8, .int (a3 + a2), .ref (a0 + 1)], rf_MM w m)) (by decide +kernel) rfl trivial ?_
      obtain ⟨q7, hg⟩ := rf_g_some hg
      refine rf_d_lastore C (rf_isA_of q2) (rf_in_of q7) (by decide +kernel) ?_
      show rf_V 11 (rf_sh w) K 0 0 132 ([(0, .ref a0), (1, .ref a1), (2, .int a2), (3, .int a3), (6, .long a6), (8, .long a8), (10, .int a10)], [], rf_MM w (rf_l m (a0 + 1) (Int32.toNatClampNeg (a3 + a2)) a8))
      refine rf_seg C [(.lload 6, 2)] (pc' := 134) (S' := ([(0, .ref a0), (1, .ref a1), (2, .int a2), (3, .int a3), (6, .long a6), (8, .long a8), (10, .int a10)], [.long a6], rf_MM w (rf_l m (a0 + 1) (Int32.toNatClampNeg (a3 + a2)) a8))) (by decide +kernel) rfl trivial ?_
      obtain rfl := Option.some.inj hg
      exact rf_lret C hE (by decide +kernel)
    · replace hg := (if_neg hc).symm.trans hg
      refine rf_seg C [(.lload 6, 2), (.goto_w 1, 1), (.lsub, 1), (.lstore 6, 2), (.lload 8, 2), (.aload 0, 1), (.aload 1, 1), (.iload 2, 1), (.iload 3, 1), (.goto_w 1, 1)] (pc' := 110) (S' := ([(6, .long (a6 - 1)), (0, .ref a0), (1, .ref a1), (2, .int a2), (3, .int a3), (8, .long a8), (10, .int a10)], [.long 1, .int a3, .int a2, .ref a1, .ref a0, .long a8], rf_MM w m)) (by decide +kernel) rfl trivial ?_
      obtain ⟨y8, m8, hc8, hg⟩ := rf_b_some hg
      refine rf_callv C rf_fit0 j_X1_addTimes (ci := 1) (As := [.ref a1, .int a2, .int a3, .long 1]) (rest := [.long a8]) mw_X1_addTimes (c_X1_addTimes hc8) (by decide) (rf_isO_of q0) (by decide) lk_1_100 rfl rfl (Nat.le_of_ble_eq_true rfl) (by decide +kernel) ?_
      show rf_V 11 (rf_sh w) K 0 0 113 ([(6, .long (a6 - 1)), (0, .ref a0), (1, .ref a1), (2, .int a2), (3, .int a3), (8, .long a8), (10, .int a10)], [.long y8, .long a8], rf_MM w m8)
      refine rf_seg C [(.ladd, 1), (.lstore 8, 2), (.iinc 10 1, 3)] (pc' := 119) (S' := ([(10, .int (a10 + 1)), (8, .long (a8 + y8)), (6, .long (a6 - 1)), (0, .ref a0), (1, .ref a1), (2, .int a2), (3, .int a3)], [], rf_MM w m8)) (by decide +kernel) rfl trivial ?_
      refine rf_goto C (-35) 84 (by decide +kernel) ?_
      refine rf_few [3, 4, 5, 6, 2, 1, 0] rfl ?_
      exact hr84 a0 a1 a2 a3 (a6 - 1) (a8 + y8) (a10 + 1) m8 hg
theorem s_X1_takeOut_84 {w : rf_w} {K : rf_K} {r : Int64 × rf_m} (C : rf_Ctx 1 cX1_takeOut 11 2 (rf_sh w) K) (hE : rf_End (some .long) K (rf_sh w) 0 0 (some (.long r.1)) (rf_MM w r.2)) (n : Nat) : ∀ (a0 : Nat) (a1 : Nat) (a2 : Int32) (a3 : Int32) (a6 : Int64) (a8 : Int64) (a10 : Int32) (m : rf_m), g_X1_takeOut_84 w n a0 a1 a2 a3 a6 a8 a10 m = some r → rf_V 11 (rf_sh w) K 0 0 84 ([(0, .ref a0), (1, .ref a1), (2, .int a2), (3, .int a3), (6, .long a6), (8, .long a8), (10, .int a10)], [], rf_MM w m) := by
  induction n with
  | zero => intro a0 a1 a2 a3 a6 a8 a10 m hg; cases hg
  | succ n ih => intro a0 a1 a2 a3 a6 a8 a10 m hg; exact s_X1_takeOut_84_b C hE ih a0 a1 a2 a3 a6 a8 a10 m hg
theorem c_X1_takeOut {w : rf_w} {m : rf_m} {a0 : Nat} {a1 : Nat} {a2 : Int32} {a3 : Int32} {r : Int64 × rf_m} (hg : g_X1_takeOut w m a0 a1 a2 a3 = some r) : rf_Con j_X1_takeOut 2 (rf_sh w) [.ref a0, .ref a1, .int a2, .int a3] (rf_MM w m) (some (.long r.1)) (rf_MM w r.2) := by
  refine rf_con j_X1_takeOut 2 ⟨by decide +kernel, rfl, Nat.le_of_ble_eq_true rfl⟩ (fun K C hE => ?_)
  unfold g_X1_takeOut at hg
  show rf_V 11 (rf_sh w) K 0 0 0 ([(0, .ref a0), (1, .ref a1), (2, .int a2), (3, .int a3)], [], rf_MM w m)
  obtain ⟨q0, hg⟩ := rf_g_some hg
  obtain ⟨q1, hg⟩ := rf_g_some hg
  obtain ⟨q2, hg⟩ := rf_g_some hg
  obtain ⟨q3, hg⟩ := rf_g_some hg
  obtain ⟨q4, hg⟩ := rf_g_some hg
  obtain ⟨q5, hg⟩ := rf_g_some hg
  refine rf_seg C [(.aload 1, 1)] (pc' := 1) (S' := ([(0, .ref a0), (1, .ref a1), (2, .int a2), (3, .int a3)], [.ref a1], rf_MM w m)) (by decide +kernel) rfl trivial ?_
  refine rf_d_getr C 1 2 (rf_isO_of q3) rfl (rf_isR_of q4) (by decide +kernel) ?_
  show rf_V 11 (rf_sh w) K 0 0 4 ([(0, .ref a0), (1, .ref a1), (2, .int a2), (3, .int a3)], [.ref (a1 + 1)], rf_MM w m)
  refine rf_seg C [(.iload 2, 1), (.iconst 1, 1), (.isub, 1)] (pc' := 7) (S' := ([(0, .ref a0), (1, .ref a1), (2, .int a2), (3, .int a3)], [.int (a2 - 1), .ref (a1 + 1)], rf_MM w m)) (by decide +kernel) rfl trivial ?_
  obtain ⟨q6, hg⟩ := rf_g_some hg
  refine rf_d_laload C (rf_isA_of q5) (rf_in_of q6) (by decide +kernel) ?_
  show rf_V 11 (rf_sh w) K 0 0 8 ([(0, .ref a0), (1, .ref a1), (2, .int a2), (3, .int a3)], [.long (m.2 (a1 + 1) (Int32.toNatClampNeg (a2 - 1)))], rf_MM w m)
  obtain ⟨x7, hx7, hg⟩ := rf_vl_some hg
  refine rf_vl_top hx7 ?_
  refine rf_seg C [(.lstore 4, 2), (.lload 4, 2), (.goto_w 0, 1), (.lcmp, 1)] (pc' := 14) (S' := ([(4, .long x7), (0, .ref a0), (1, .ref a1), (2, .int a2), (3, .int a3)], [.int (lg_cmp x7 0)], rf_MM w m)) (by decide +kernel) rfl trivial ?_
  refine rf_if_eq C 11 25 (by decide +kernel) (fun hc => ?_) (fun hc => ?_)
  · replace hg := (if_pos hc).symm.trans hg
    refine rf_seg C [(.goto_w 0, 1)] (pc' := 26) (S' := ([(4, .long x7), (0, .ref a0), (1, .ref a1), (2, .int a2), (3, .int a3)], [.long 0], rf_MM w m)) (by decide +kernel) rfl trivial ?_
    obtain rfl := Option.some.inj hg
    exact rf_lret C hE (by decide +kernel)
  · replace hg := (if_neg hc).symm.trans hg
    refine rf_seg C [(.iload 3, 1), (.iload 2, 1), (.iadd, 1), (.iconst 10, 2)] (pc' := 22) (S' := ([(4, .long x7), (0, .ref a0), (1, .ref a1), (2, .int a2), (3, .int a3)], [.int 10, .int (a3 + a2)], rf_MM w m)) (by decide +kernel) rfl trivial ?_
    refine rf_icmp_lt C 5 27 (by decide +kernel) (fun hc => ?_) (fun hc => ?_)
    · replace hg := (if_pos hc).symm.trans hg
      refine rf_seg C [(.goto_w 1073741823, 3), (.aload 0, 1)] (pc' := 31) (S' := ([(4, .long x7), (0, .ref a0), (1, .ref a1), (2, .int a2), (3, .int a3)], [.ref a0, .long 1073741823], rf_MM w m)) (by decide +kernel) rfl trivial ?_
      refine rf_d_getr C 1 2 (rf_isO_of q0) rfl (rf_isR_of q1) (by decide +kernel) ?_
      show rf_V 11 (rf_sh w) K 0 0 34 ([(4, .long x7), (0, .ref a0), (1, .ref a1), (2, .int a2), (3, .int a3)], [.ref (a0 + 1), .long 1073741823], rf_MM w m)
      refine rf_seg C [(.iload 3, 1), (.iload 2, 1), (.iadd, 1)] (pc' := 37) (S' := ([(4, .long x7), (0, .ref a0), (1, .ref a1), (2, .int a2), (3, .int a3)], [.int (a3 + a2), .ref (a0 + 1), .long 1073741823], rf_MM w m)) (by decide +kernel) rfl trivial ?_
      obtain ⟨q8, hg⟩ := rf_g_some hg
      refine rf_d_laload C (rf_isA_of q2) (rf_in_of q8) (by decide +kernel) ?_
      show rf_V 11 (rf_sh w) K 0 0 38 ([(4, .long x7), (0, .ref a0), (1, .ref a1), (2, .int a2), (3, .int a3)], [.long (m.2 (a0 + 1) (Int32.toNatClampNeg (a3 + a2))), .long 1073741823], rf_MM w m)
      refine rf_seg C [(.iconst 30, 2), (.lshl, 1), (.aload 0, 1)] (pc' := 42) (S' := ([(4, .long x7), (0, .ref a0), (1, .ref a1), (2, .int a2), (3, .int a3)], [.ref a0, .long ((m.2 (a0 + 1) (Int32.toNatClampNeg (a3 + a2))) <<< (Int32.toInt64 30 &&& 63)), .long 1073741823], rf_MM w m)) (by decide +kernel) rfl trivial ?_
      refine rf_d_getr C 1 2 (rf_isO_of q0) rfl (rf_isR_of q1) (by decide +kernel) ?_
      show rf_V 11 (rf_sh w) K 0 0 45 ([(4, .long x7), (0, .ref a0), (1, .ref a1), (2, .int a2), (3, .int a3)], [.ref (a0 + 1), .long ((m.2 (a0 + 1) (Int32.toNatClampNeg (a3 + a2))) <<< (Int32.toInt64 30 &&& 63)), .long 1073741823], rf_MM w m)
      refine rf_seg C [(.iload 3, 1), (.iload 2, 1), (.iadd, 1), (.iconst 1, 1), (.isub, 1)] (pc' := 50) (S' := ([(4, .long x7), (0, .ref a0), (1, .ref a1), (2, .int a2), (3, .int a3)], [.int ((a3 + a2) - 1), .ref (a0 + 1), .long ((m.2 (a0 + 1) (Int32.toNatClampNeg (a3 + a2))) <<< (Int32.toInt64 30 &&& 63)), .long 1073741823], rf_MM w m)) (by decide +kernel) rfl trivial ?_
      obtain ⟨q9, hg⟩ := rf_g_some hg
      refine rf_d_laload C (rf_isA_of q2) (rf_in_of q9) (by decide +kernel) ?_
      show rf_V 11 (rf_sh w) K 0 0 51 ([(4, .long x7), (0, .ref a0), (1, .ref a1), (2, .int a2), (3, .int a3)], [.long (m.2 (a0 + 1) (Int32.toNatClampNeg ((a3 + a2) - 1))), .long ((m.2 (a0 + 1) (Int32.toNatClampNeg (a3 + a2))) <<< (Int32.toInt64 30 &&& 63)), .long 1073741823], rf_MM w m)
      obtain ⟨q10, hg⟩ := rf_g_some hg
      refine rf_seg C [(.lor, 1), (.lload 4, 2), (.ldiv, 1)] (pc' := 55) (S' := ([(4, .long x7), (0, .ref a0), (1, .ref a1), (2, .int a2), (3, .int a3)], [.long ((((m.2 (a0 + 1) (Int32.toNatClampNeg (a3 + a2))) <<< (Int32.toInt64 30 &&& 63)) ||| (m.2 (a0 + 1) (Int32.toNatClampNeg ((a3 + a2) - 1)))) / x7), .long 1073741823], rf_MM w m)) (by decide +kernel) rfl (rf_nzl_of q10) ?_
      obtain ⟨y11, m11, hc11, hg⟩ := rf_b_some hg
      refine rf_calls C rf_fit0 j_minL (As := [.long 1073741823, .long ((((m.2 (a0 + 1) (Int32.toNatClampNeg (a3 + a2))) <<< (Int32.toInt64 30 &&& 63)) ||| (m.2 (a0 + 1) (Int32.toNatClampNeg ((a3 + a2) - 1)))) / x7)]) (rest := []) mw_minL (c_minL hc11) (by decide) lk_1_96 rfl rfl (Nat.le_of_ble_eq_true rfl) (by decide +kernel) ?_
      show rf_V 11 (rf_sh w) K 0 0 58 ([(4, .long x7), (0, .ref a0), (1, .ref a1), (2, .int a2), (3, .int a3)], [.long y11], rf_MM w m11)
      refine rf_seg C [(.lstore 6, 2), (.aload 0, 1)] (pc' := 61) (S' := ([(6, .long y11), (4, .long x7), (0, .ref a0), (1, .ref a1), (2, .int a2), (3, .int a3)], [.ref a0], rf_MM w m11)) (by decide +kernel) rfl trivial ?_
      refine rf_d_getr C 1 2 (rf_isO_of q0) rfl (rf_isR_of q1) (by decide +kernel) ?_
      show rf_V 11 (rf_sh w) K 0 0 64 ([(6, .long y11), (4, .long x7), (0, .ref a0), (1, .ref a1), (2, .int a2), (3, .int a3)], [.ref (a0 + 1)], rf_MM w m11)
      refine rf_seg C [(.iload 3, 1), (.iload 2, 1), (.iadd, 1)] (pc' := 67) (S' := ([(6, .long y11), (4, .long x7), (0, .ref a0), (1, .ref a1), (2, .int a2), (3, .int a3)], [.int (a3 + a2), .ref (a0 + 1)], rf_MM w m11)) (by decide +kernel) rfl trivial ?_
      obtain ⟨q12, hg⟩ := rf_g_some hg
      refine rf_d_laload C (rf_isA_of q2) (rf_in_of q12) (by decide +kernel) ?_
      show rf_V 11 (rf_sh w) K 0 0 68 ([(6, .long y11), (4, .long x7), (0, .ref a0), (1, .ref a1), (2, .int a2), (3, .int a3)], [.long (m11.2 (a0 + 1) (Int32.toNatClampNeg (a3 + a2)))], rf_MM w m11)
      refine rf_seg C [(.aload 0, 1), (.aload 1, 1), (.iload 2, 1), (.iload 3, 1), (.lload 6, 2), (.lneg, 1)] (pc' := 75) (S' := ([(6, .long y11), (4, .long x7), (0, .ref a0), (1, .ref a1), (2, .int a2), (3, .int a3)], [.long (-y11), .int a3, .int a2, .ref a1, .ref a0, .long (m11.2 (a0 + 1) (Int32.toNatClampNeg (a3 + a2)))], rf_MM w m11)) (by decide +kernel) rfl trivial ?_
      obtain ⟨y13, m13, hc13, hg⟩ := rf_b_some hg
      refine rf_callv C rf_fit0 j_X1_addTimes (ci := 1) (As := [.ref a1, .int a2, .int a3, .long (-y11)]) (rest := [.long (m11.2 (a0 + 1) (Int32.toNatClampNeg (a3 + a2)))]) mw_X1_addTimes (c_X1_addTimes hc13) (by decide) (rf_isO_of q0) (by decide) lk_1_100 rfl rfl (Nat.le_of_ble_eq_true rfl) (by decide +kernel) ?_
      show rf_V 11 (rf_sh w) K 0 0 78 ([(6, .long y11), (4, .long x7), (0, .ref a0), (1, .ref a1), (2, .int a2), (3, .int a3)], [.long y13, .long (m11.2 (a0 + 1) (Int32.toNatClampNeg (a3 + a2)))], rf_MM w m13)
      refine rf_seg C [(.ladd, 1)] (pc' := 79) (S' := ([(6, .long y11), (4, .long x7), (0, .ref a0), (1, .ref a1), (2, .int a2), (3, .int a3)], [.long ((m11.2 (a0 + 1) (Int32.toNatClampNeg (a3 + a2))) + y13)], rf_MM w m13)) (by decide +kernel) rfl trivial ?_
      obtain ⟨x14, hx14, hg⟩ := rf_vl_some hg
      refine rf_vl_top hx14 ?_
      refine rf_seg C [(.lstore 8, 2), (.iconst 0, 1), (.istore 10, 2)] (pc' := 84) (S' := ([(10, .int 0), (8, .long x14), (6, .long y11), (4, .long x7), (0, .ref a0), (1, .ref a1), (2, .int a2), (3, .int a3)], [], rf_MM w m13)) (by decide +kernel) rfl trivial ?_
      refine rf_few [4, 5, 6, 7, 2, 1, 0] rfl ?_
      exact s_X1_takeOut_84 C hE rf_fuel a0 a1 a2 a3 y11 x14 0 m13 hg
    · replace hg := (if_neg hc).symm.trans hg
      refine rf_seg C [(.goto_w 0, 1)] (pc' := 26) (S' := ([(4, .long x7), (0, .ref a0), (1, .ref a1), (2, .int a2), (3, .int a3)], [.long 0], rf_MM w m)) (by decide +kernel) rfl trivial ?_
      obtain rfl := Option.some.inj hg
      exact rf_lret C hE (by decide +kernel)
-- J6_numberOfLeadingZeros_0f7a4
abbrev j_J6_numberOfLeadingZeros_0f7a4 : rf_J := (20, yJ6_numberOfLeadingZeros_0f7a4, cJ6_numberOfLeadingZeros_0f7a4, 2, (some .int))
theorem mw_J6_numberOfLeadingZeros_0f7a4 : rf_ms j_J6_numberOfLeadingZeros_0f7a4 1 := ⟨⟨rf_mem 68 (by decide +kernel), rf_mem 64 (by decide +kernel), rf_mem 68 (by decide +kernel)⟩, by decide +kernel, by decide⟩
def g_J6_numberOfLeadingZeros_0f7a4_61 (w : rf_w) (a0 : Int32) (a1 : Int32) (m : rf_m) : Option (Int32 × rf_m) := (if a0 < 4 then some (a1 - ((Int32.toUInt32 a0 >>> (Int32.toUInt32 1 &&& Int32.toUInt32 31)).toInt32), m) else rf_vi ((Int32.toUInt32 a0 >>> (Int32.toUInt32 2 &&& Int32.toUInt32 31)).toInt32) fun x0 => some ((a1 + (-2)) - ((Int32.toUInt32 x0 >>> (Int32.toUInt32 1 &&& Int32.toUInt32 31)).toInt32), m))
def g_J6_numberOfLeadingZeros_0f7a4_48 (w : rf_w) (a0 : Int32) (a1 : Int32) (m : rf_m) : Option (Int32 × rf_m) := (if a0 < 16 then g_J6_numberOfLeadingZeros_0f7a4_61 w a0 a1 m else rf_vi ((Int32.toUInt32 a0 >>> (Int32.toUInt32 4 &&& Int32.toUInt32 31)).toInt32) fun x0 => g_J6_numberOfLeadingZeros_0f7a4_61 w x0 (a1 + (-4)) m)
def g_J6_numberOfLeadingZeros_0f7a4_33 (w : rf_w) (a0 : Int32) (a1 : Int32) (m : rf_m) : Option (Int32 × rf_m) := (if a0 < 256 then g_J6_numberOfLeadingZeros_0f7a4_48 w a0 a1 m else rf_vi ((Int32.toUInt32 a0 >>> (Int32.toUInt32 8 &&& Int32.toUInt32 31)).toInt32) fun x0 => g_J6_numberOfLeadingZeros_0f7a4_48 w x0 (a1 + (-8)) m)
def g_J6_numberOfLeadingZeros_0f7a4 (w : rf_w) (m : rf_m) (a0 : Int32) : Option (Int32 × rf_m) := (if (0 : Int32) < a0 then (if a0 < 65536 then g_J6_numberOfLeadingZeros_0f7a4_33 w a0 31 m else rf_vi ((Int32.toUInt32 a0 >>> (Int32.toUInt32 16 &&& Int32.toUInt32 31)).toInt32) fun x0 => g_J6_numberOfLeadingZeros_0f7a4_33 w x0 (31 + (-16)) m) else (if a0 = 0 then some (32, m) else some (0, m)))
theorem s_J6_numberOfLeadingZeros_0f7a4_61 {w : rf_w} {K : rf_K} {r : Int32 × rf_m} (C : rf_Ctx 20 cJ6_numberOfLeadingZeros_0f7a4 2 1 (rf_sh w) K) (hE : rf_End (some .int) K (rf_sh w) 0 0 (some (.int r.1)) (rf_MM w r.2)) (a0 : Int32) (a1 : Int32) (m : rf_m) (hg : g_J6_numberOfLeadingZeros_0f7a4_61 w a0 a1 m = some r) : rf_V 2 (rf_sh w) K 0 0 61 ([(0, .int a0), (1, .int a1)], [], rf_MM w m) := by
  unfold g_J6_numberOfLeadingZeros_0f7a4_61 at hg
  refine rf_seg C [(.iload 0, 1), (.iconst 4, 1)] (pc' := 63) (S' := ([(0, .int a0), (1, .int a1)], [.int 4, .int a0], rf_MM w m)) (by decide +kernel) rfl trivial ?_
  refine rf_icmp_lt C 10 73 (by decide +kernel) (fun hc => ?_) (fun hc => ?_)
  · replace hg := (if_pos hc).symm.trans hg
    refine rf_seg C [(.iload 1, 1), (.iload 0, 1), (.iconst 1, 1), (.iushr, 1), (.isub, 1)] (pc' := 78) (S' := ([(0, .int a0), (1, .int a1)], [.int (a1 - ((Int32.toUInt32 a0 >>> (Int32.toUInt32 1 &&& Int32.toUInt32 31)).toInt32))], rf_MM w m)) (by decide +kernel) rfl trivial ?_
    obtain rfl := Option.some.inj hg
    exact rf_iret C hE (by decide +kernel)
  · replace hg := (if_neg hc).symm.trans hg
    refine rf_seg C [(.iinc 1 (-2), 3), (.iload 0, 1), (.iconst 2, 1), (.iushr, 1)] (pc' := 72) (S' := ([(1, .int (a1 + (-2))), (0, .int a0)], [.int ((Int32.toUInt32 a0 >>> (Int32.toUInt32 2 &&& Int32.toUInt32 31)).toInt32)], rf_MM w m)) (by decide +kernel) rfl trivial ?_
    obtain ⟨x0, hx0, hg⟩ := rf_vi_some hg
    refine rf_vi_top hx0 ?_
    refine rf_seg C [(.istore 0, 1), (.iload 1, 1), (.iload 0, 1), (.iconst 1, 1), (.iushr, 1), (.isub, 1)] (pc' := 78) (S' := ([(0, .int x0), (1, .int (a1 + (-2)))], [.int ((a1 + (-2)) - ((Int32.toUInt32 x0 >>> (Int32.toUInt32 1 &&& Int32.toUInt32 31)).toInt32))], rf_MM w m)) (by decide +kernel) rfl trivial ?_
    obtain rfl := Option.some.inj hg
    exact rf_iret C hE (by decide +kernel)
theorem s_J6_numberOfLeadingZeros_0f7a4_48 {w : rf_w} {K : rf_K} {r : Int32 × rf_m} (C : rf_Ctx 20 cJ6_numberOfLeadingZeros_0f7a4 2 1 (rf_sh w) K) (hE : rf_End (some .int) K (rf_sh w) 0 0 (some (.int r.1)) (rf_MM w r.2)) (a0 : Int32) (a1 : Int32) (m : rf_m) (hg : g_J6_numberOfLeadingZeros_0f7a4_48 w a0 a1 m = some r) : rf_V 2 (rf_sh w) K 0 0 48 ([(0, .int a0), (1, .int a1)], [], rf_MM w m) := by
  unfold g_J6_numberOfLeadingZeros_0f7a4_48 at hg
  refine rf_seg C [(.iload 0, 1), (.iconst 16, 2)] (pc' := 51) (S' := ([(0, .int a0), (1, .int a1)], [.int 16, .int a0], rf_MM w m)) (by decide +kernel) rfl trivial ?_
  refine rf_icmp_lt C 10 61 (by decide +kernel) (fun hc => ?_) (fun hc => ?_)
  · replace hg := (if_pos hc).symm.trans hg
    refine rf_few [0, 1] rfl ?_
    exact s_J6_numberOfLeadingZeros_0f7a4_61 C hE a0 a1 m hg
  · replace hg := (if_neg hc).symm.trans hg
    refine rf_seg C [(.iinc 1 (-4), 3), (.iload 0, 1), (.iconst 4, 1), (.iushr, 1)] (pc' := 60) (S' := ([(1, .int (a1 + (-4))), (0, .int a0)], [.int ((Int32.toUInt32 a0 >>> (Int32.toUInt32 4 &&& Int32.toUInt32 31)).toInt32)], rf_MM w m)) (by decide +kernel) rfl trivial ?_
    obtain ⟨x0, hx0, hg⟩ := rf_vi_some hg
    refine rf_vi_top hx0 ?_
    refine rf_seg C [(.istore 0, 1)] (pc' := 61) (S' := ([(0, .int x0), (1, .int (a1 + (-4)))], [], rf_MM w m)) (by decide +kernel) rfl trivial ?_
    refine rf_few [0, 1] rfl ?_
    exact s_J6_numberOfLeadingZeros_0f7a4_61 C hE x0 (a1 + (-4)) m hg
theorem s_J6_numberOfLeadingZeros_0f7a4_33 {w : rf_w} {K : rf_K} {r : Int32 × rf_m} (C : rf_Ctx 20 cJ6_numberOfLeadingZeros_0f7a4 2 1 (rf_sh w) K) (hE : rf_End (some .int) K (rf_sh w) 0 0 (some (.int r.1)) (rf_MM w r.2)) (a0 : Int32) (a1 : Int32) (m : rf_m) (hg : g_J6_numberOfLeadingZeros_0f7a4_33 w a0 a1 m = some r) : rf_V 2 (rf_sh w) K 0 0 33 ([(0, .int a0), (1, .int a1)], [], rf_MM w m) := by
  unfold g_J6_numberOfLeadingZeros_0f7a4_33 at hg
  refine rf_seg C [(.iload 0, 1), (.iconst 256, 3)] (pc' := 37) (S' := ([(0, .int a0), (1, .int a1)], [.int 256, .int a0], rf_MM w m)) (by decide +kernel) rfl trivial ?_
  refine rf_icmp_lt C 11 48 (by decide +kernel) (fun hc => ?_) (fun hc => ?_)
  · replace hg := (if_pos hc).symm.trans hg
    refine rf_few [0, 1] rfl ?_
    exact s_J6_numberOfLeadingZeros_0f7a4_48 C hE a0 a1 m hg
  · replace hg := (if_neg hc).symm.trans hg
    refine rf_seg C [(.iinc 1 (-8), 3), (.iload 0, 1), (.iconst 8, 2), (.iushr, 1)] (pc' := 47) (S' := ([(1, .int (a1 + (-8))), (0, .int a0)], [.int ((Int32.toUInt32 a0 >>> (Int32.toUInt32 8 &&& Int32.toUInt32 31)).toInt32)], rf_MM w m)) (by decide +kernel) rfl trivial ?_
    obtain ⟨x0, hx0, hg⟩ := rf_vi_some hg
    refine rf_vi_top hx0 ?_
    refine rf_seg C [(.istore 0, 1)] (pc' := 48) (S' := ([(0, .int x0), (1, .int (a1 + (-8)))], [], rf_MM w m)) (by decide +kernel) rfl trivial ?_
    refine rf_few [0, 1] rfl ?_
    exact s_J6_numberOfLeadingZeros_0f7a4_48 C hE x0 (a1 + (-8)) m hg
theorem c_J6_numberOfLeadingZeros_0f7a4 {w : rf_w} {m : rf_m} {a0 : Int32} {r : Int32 × rf_m} (hg : g_J6_numberOfLeadingZeros_0f7a4 w m a0 = some r) : rf_Con j_J6_numberOfLeadingZeros_0f7a4 1 (rf_sh w) [.int a0] (rf_MM w m) (some (.int r.1)) (rf_MM w r.2) := by
  refine rf_con j_J6_numberOfLeadingZeros_0f7a4 1 ⟨by decide +kernel, rfl, Nat.le_of_ble_eq_true rfl⟩ (fun K C hE => ?_)
  unfold g_J6_numberOfLeadingZeros_0f7a4 at hg
  show rf_V 2 (rf_sh w) K 0 0 0 ([(0, .int a0)], [], rf_MM w m)
  refine rf_seg C [(.iload 0, 1)] (pc' := 1) (S' := ([(0, .int a0)], [.int a0], rf_MM w m)) (by decide +kernel) rfl trivial ?_
  refine rf_if_gt C 14 15 (by decide +kernel) (fun hc => ?_) (fun hc => ?_)
  · replace hg := (if_pos hc).symm.trans hg
    refine rf_seg C [(.iconst 31, 2), (.istore 1, 1), (.iload 0, 1), (.iconst 65536, 3)] (pc' := 22) (S' := ([(1, .int 31), (0, .int a0)], [.int 65536, .int a0], rf_MM w m)) (by decide +kernel) rfl trivial ?_
    refine rf_icmp_lt C 11 33 (by decide +kernel) (fun hc => ?_) (fun hc => ?_)
    · replace hg := (if_pos hc).symm.trans hg
      refine rf_few [1, 0] rfl ?_
      exact s_J6_numberOfLeadingZeros_0f7a4_33 C hE a0 31 m hg
    · replace hg := (if_neg hc).symm.trans hg
      refine rf_seg C [(.iinc 1 (-16), 3), (.iload 0, 1), (.iconst 16, 2), (.iushr, 1)] (pc' := 32) (S' := ([(1, .int (31 + (-16))), (0, .int a0)], [.int ((Int32.toUInt32 a0 >>> (Int32.toUInt32 16 &&& Int32.toUInt32 31)).toInt32)], rf_MM w m)) (by decide +kernel) rfl trivial ?_
      obtain ⟨x0, hx0, hg⟩ := rf_vi_some hg
      refine rf_vi_top hx0 ?_
      refine rf_seg C [(.istore 0, 1)] (pc' := 33) (S' := ([(0, .int x0), (1, .int (31 + (-16)))], [], rf_MM w m)) (by decide +kernel) rfl trivial ?_
      refine rf_few [0, 1] rfl ?_
      exact s_J6_numberOfLeadingZeros_0f7a4_33 C hE x0 (31 + (-16)) m hg
  · replace hg := (if_neg hc).symm.trans hg
    refine rf_seg C [(.iload 0, 1)] (pc' := 5) (S' := ([(0, .int a0)], [.int a0], rf_MM w m)) (by decide +kernel) rfl trivial ?_
    refine rf_if_ne C 8 13 (by decide +kernel) (fun hc => ?_) (fun hc => ?_)
    · replace hg := (if_neg hc).symm.trans hg
      refine rf_seg C [(.iconst 0, 1)] (pc' := 14) (S' := ([(0, .int a0)], [.int 0], rf_MM w m)) (by decide +kernel) rfl trivial ?_
      obtain rfl := Option.some.inj hg
      exact rf_iret C hE (by decide +kernel)
    · replace hg := (if_pos hc).symm.trans hg
      refine rf_seg C [(.iconst 32, 2)] (pc' := 10) (S' := ([(0, .int a0)], [.int 32], rf_MM w m)) (by decide +kernel) rfl trivial ?_
      refine rf_goto C 4 14 (by decide +kernel) ?_
      obtain rfl := Option.some.inj hg
      exact rf_iret C hE (by decide +kernel)
-- J13_numberOfLeadingZeros_95d88
abbrev j_J13_numberOfLeadingZeros_95d88 : rf_J := (21, yJ13_numberOfLeadingZeros_95d88, cJ13_numberOfLeadingZeros_95d88, 3, (some .int))
theorem mw_J13_numberOfLeadingZeros_95d88 : rf_ms j_J13_numberOfLeadingZeros_95d88 1 := ⟨⟨rf_mem 68 (by decide +kernel), rf_mem 68 (by decide +kernel), rf_mem 68 (by decide +kernel)⟩, by decide +kernel, by decide⟩
def g_J13_numberOfLeadingZeros_95d88 (w : rf_w) (m : rf_m) (a0 : Int64) : Option (Int32 × rf_m) := rf_vi (Int64.toInt32 ((Int64.toUInt64 a0 >>> ((Int32.toInt64 32).toUInt64 &&& Int64.toUInt64 63)).toInt64)) fun x0 => (if x0 = 0 then rf_b (g_J6_numberOfLeadingZeros_0f7a4 w m (Int64.toInt32 a0)) fun y2 m2 => some (32 + y2, m2) else rf_b (g_J6_numberOfLeadingZeros_0f7a4 w m x0) fun y1 m1 => some (y1, m1))
theorem c_J13_numberOfLeadingZeros_95d88 {w : rf_w} {m : rf_m} {a0 : Int64} {r : Int32 × rf_m} (hg : g_J13_numberOfLeadingZeros_95d88 w m a0 = some r) : rf_Con j_J13_numberOfLeadingZeros_95d88 2 (rf_sh w) [.long a0] (rf_MM w m) (some (.int r.1)) (rf_MM w r.2) := by
  refine rf_con j_J13_numberOfLeadingZeros_95d88 2 ⟨by decide +kernel, rfl, Nat.le_of_ble_eq_true rfl⟩ (fun K C hE => ?_)
  unfold g_J13_numberOfLeadingZeros_95d88 at hg
  show rf_V 3 (rf_sh w) K 0 0 0 ([(0, .long a0)], [], rf_MM w m)
  refine rf_seg C [(.lload 0, 1), (.iconst 32, 2), (.lushr, 1), (.l2i, 1)] (pc' := 5) (S' := ([(0, .long a0)], [.int (Int64.toInt32 ((Int64.toUInt64 a0 >>> ((Int32.toInt64 32).toUInt64 &&& Int64.toUInt64 63)).toInt64))], rf_MM w m)) (by decide +kernel) rfl trivial ?_
  obtain ⟨x0, hx0, hg⟩ := rf_vi_some hg
  refine rf_vi_top hx0 ?_
  refine rf_seg C [(.istore 2, 1), (.iload 2, 1)] (pc' := 7) (S' := ([(2, .int x0), (0, .long a0)], [.int x0], rf_MM w m)) (by decide +kernel) rfl trivial ?_
  refine rf_if_ne C 14 21 (by decide +kernel) (fun hc => ?_) (fun hc => ?_)
  · replace hg := (if_neg hc).symm.trans hg
    refine rf_seg C [(.iload 2, 1)] (pc' := 22) (S' := ([(2, .int x0), (0, .long a0)], [.int x0], rf_MM w m)) (by decide +kernel) rfl trivial ?_
    obtain ⟨y1, m1, hc1, hg⟩ := rf_b_some hg
    refine rf_calls C rf_fit0 j_J6_numberOfLeadingZeros_0f7a4 (As := [.int x0]) (rest := []) mw_J6_numberOfLeadingZeros_0f7a4 (c_J6_numberOfLeadingZeros_0f7a4 hc1) (by decide) lk_21_308 rfl rfl (Nat.le_of_ble_eq_true rfl) (by decide +kernel) ?_
    show rf_V 3 (rf_sh w) K 0 0 25 ([(2, .int x0), (0, .long a0)], [.int y1], rf_MM w m1)
    obtain rfl := Option.some.inj hg
    exact rf_iret C hE (by decide +kernel)
  · replace hg := (if_pos hc).symm.trans hg
    refine rf_seg C [(.iconst 32, 2), (.lload 0, 1), (.l2i, 1)] (pc' := 14) (S' := ([(2, .int x0), (0, .long a0)], [.int (Int64.toInt32 a0), .int 32], rf_MM w m)) (by decide +kernel) rfl trivial ?_
    obtain ⟨y2, m2, hc2, hg⟩ := rf_b_some hg
    refine rf_calls C rf_fit0 j_J6_numberOfLeadingZeros_0f7a4 (As := [.int (Int64.toInt32 a0)]) (rest := [.int 32]) mw_J6_numberOfLeadingZeros_0f7a4 (c_J6_numberOfLeadingZeros_0f7a4 hc2) (by decide) lk_21_308 rfl rfl (Nat.le_of_ble_eq_true rfl) (by decide +kernel) ?_
    show rf_V 3 (rf_sh w) K 0 0 17 ([(2, .int x0), (0, .long a0)], [.int y2, .int 32], rf_MM w m2)
    refine rf_seg C [(.iadd, 1)] (pc' := 18) (S' := ([(2, .int x0), (0, .long a0)], [.int (32 + y2)], rf_MM w m2)) (by decide +kernel) rfl trivial ?_
    refine rf_goto C 7 25 (by decide +kernel) ?_
    obtain rfl := Option.some.inj hg
    exact rf_iret C hE (by decide +kernel)
-- X1_shiftUp
abbrev j_X1_shiftUp : rf_J := (1, yX1_shiftUp, cX1_shiftUp, 7, none)
theorem mw_X1_shiftUp : rf_mv j_X1_shiftUp (rf_R 1) 1 := ⟨⟨rf_mem 69 (by decide +kernel), rf_mem 69 (by decide +kernel), rf_mem 5 (by decide +kernel), rf_mem 69 (by decide +kernel)⟩, by decide +kernel, by decide⟩
def g_X1_shiftUp_5_b (w : rf_w) (rec5 : Nat → Int32 → Int64 → Int32 → rf_m → Option (rf_m)) (a0 : Nat) (a1 : Int32) (a2 : Int64) (a4 : Int32) (m : rf_m) : Option (rf_m) := rf_g (rf_isO w a0 1) (rf_g (rf_isR w a0 2 (a0 + 1)) (rf_g (rf_isA w (a0 + 1) .long 10) ((if (m.1 a0 0) ≤ a4 then (if 10 ≤ (m.1 a0 0) then some m else rf_g (rf_in (m.1 a0 0) 10) (some (rf_l m (a0 + 1) (Int32.toNatClampNeg (m.1 a0 0)) a2))) else rf_g (rf_in a4 10) (rf_vl (((m.2 (a0 + 1) (Int32.toNatClampNeg a4)) <<< (Int32.toInt64 a1 &&& 63)) ||| a2) fun x5 => rf_g (rf_in a4 10) (rf_vl (x5 >>> (Int32.toInt64 30 &&& 63)) fun x7 => rec5 a0 a1 x7 (a4 + 1) (rf_l m (a0 + 1) (Int32.toNatClampNeg a4) (x5 &&& 1073741823))))))))
def g_X1_shiftUp_5 (w : rf_w) : Nat → Nat → Int32 → Int64 → Int32 → rf_m → Option (rf_m)
  | 0, _, _, _, _, _ => none
  | n + 1, a0, a1, a2, a4, m => g_X1_shiftUp_5_b w (g_X1_shiftUp_5 w n) a0 a1 a2 a4 m
def g_X1_shiftUp (w : rf_w) (m : rf_m) (a0 : Nat) (a1 : Int32) : Option (rf_m) := rf_g (rf_isO w a0 1) (rf_g (rf_isR w a0 2 (a0 + 1)) (rf_g (rf_isA w (a0 + 1) .long 10) (g_X1_shiftUp_5 w rf_fuel a0 a1 0 0 m)))
theorem s_X1_shiftUp_5_b {w : rf_w} {K : rf_K} {r : rf_m} (C : rf_Ctx 1 cX1_shiftUp 7 1 (rf_sh w) K) (hE : rf_End none K (rf_sh w) 0 0 none (rf_MM w r)) {rec5 : Nat → Int32 → Int64 → Int32 → rf_m → Option (rf_m)} (hr5 : ∀ (a0 : Nat) (a1 : Int32) (a2 : Int64) (a4 : Int32) (m : rf_m), rec5 a0 a1 a2 a4 m = some r → rf_V 7 (rf_sh w) K 0 0 5 ([(0, .ref a0), (1, .int a1), (2, .long a2), (4, .int a4)], [], rf_MM w m)) (a0 : Nat) (a1 : Int32) (a2 : Int64) (a4 : Int32) (m : rf_m) (hg : g_X1_shiftUp_5_b w rec5 a0 a1 a2 a4 m = some r) : rf_V 7 (rf_sh w) K 0 0 5 ([(0, .ref a0), (1, .int a1), (2, .long a2), (4, .int a4)], [], rf_MM w m) := by
  unfold g_X1_shiftUp_5_b at hg
  obtain ⟨q0, hg⟩ := rf_g_some hg
  obtain ⟨q1, hg⟩ := rf_g_some hg
  obtain ⟨q2, hg⟩ := rf_g_some hg
  refine rf_seg C [(.iload 4, 2), (.aload 0, 1)] (pc' := 8) (S' := ([(0, .ref a0), (1, .int a1), (2, .long a2), (4, .int a4)], [.ref a0, .int a4], rf_MM w m)) (by decide +kernel) rfl trivial ?_
  refine rf_d_get C 1 0 (rf_isO_of q0) (by decide +kernel) ?_
  show rf_V 7 (rf_sh w) K 0 0 11 ([(0, .ref a0), (1, .int a1), (2, .long a2), (4, .int a4)], [.int (m.1 a0 0), .int a4], rf_MM w m)
  refine rf_icmp_ge C 41 52 (by decide +kernel) (fun hc => ?_) (fun hc => ?_)
  · replace hg := (if_pos hc).symm.trans hg
    refine rf_seg C [(.aload 0, 1)] (pc' := 53) (S' := ([(0, .ref a0), (1, .int a1), (2, .long a2), (4, .int a4)], [.ref a0], rf_MM w m)) (by decide +kernel) rfl trivial ?_
    refine rf_d_get C 1 0 (rf_isO_of q0) (by decide +kernel) ?_
    show rf_V 7 (rf_sh w) K 0 0 56 ([(0, .ref a0), (1, .int a1), (2, .long a2), (4, .int a4)], [.int (m.1 a0 0)], rf_MM w m)
    refine rf_seg C [(.iconst 10, 2)] (pc' := 58) (S' := ([(0, .ref a0), (1, .int a1), (2, .long a2), (4, .int a4)], [.int 10, .int (m.1 a0 0)], rf_MM w m)) (by decide +kernel) rfl trivial ?_
    refine rf_icmp_ge C 13 71 (by decide +kernel) (fun hc => ?_) (fun hc => ?_)
    · replace hg := (if_pos hc).symm.trans hg
      obtain rfl := Option.some.inj hg
      exact rf_vret C hE (by decide +kernel)
    · replace hg := (if_neg hc).symm.trans hg
      refine rf_seg C [(.aload 0, 1)] (pc' := 62) (S' := ([(0, .ref a0), (1, .int a1), (2, .long a2), (4, .int a4)], [.ref a0], rf_MM w m)) (by decide +kernel) rfl trivial ?_
      refine rf_d_getr C 1 2 (rf_isO_of q0) rfl (rf_isR_of q1) (by decide +kernel) ?_
      show rf_V 7 (rf_sh w) K 0 0 65 ([(0, .ref a0), (1, .int a1), (2, .long a2), (4, .int a4)], [.ref (a0 + 1)], rf_MM w m)
      refine rf_seg C [(.aload 0, 1)] (pc' := 66) (S' := ([(0, .ref a0), (1, .int a1), (2, .long a2), (4, .int a4)], [.ref a0, .ref (a0 + 1)], rf_MM w m)) (by decide +kernel) rfl trivial ?_
      refine rf_d_get C 1 0 (rf_isO_of q0) (by decide +kernel) ?_
      show rf_V 7 (rf_sh w) K 0 0 69 ([(0, .ref a0), (1, .int a1), (2, .long a2), (4, .int a4)], [.int (m.1 a0 0), .ref (a0 + 1)], rf_MM w m)
      refine rf_seg C [(.lload 2, 1)] (pc' := 70) (S' := ([(0, .ref a0), (1, .int a1), (2, .long a2), (4, .int a4)], [.long a2, .int (m.1 a0 0), .ref (a0 + 1)], rf_MM w m)) (by decide +kernel) rfl trivial ?_
      obtain ⟨q3, hg⟩ := rf_g_some hg
      refine rf_d_lastore C (rf_isA_of q2) (rf_in_of q3) (by decide +kernel) ?_
      show rf_V 7 (rf_sh w) K 0 0 71 ([(0, .ref a0), (1, .int a1), (2, .long a2), (4, .int a4)], [], rf_MM w (rf_l m (a0 + 1) (Int32.toNatClampNeg (m.1 a0 0)) a2))
      obtain rfl := Option.some.inj hg
      exact rf_vret C hE (by decide +kernel)
  · replace hg := (if_neg hc).symm.trans hg
    refine rf_seg C [(.aload 0, 1)] (pc' := 15) (S' := ([(0, .ref a0), (1, .int a1), (2, .long a2), (4, .int a4)], [.ref a0], rf_MM w m)) (by decide +kernel) rfl trivial ?_
    refine rf_d_getr C 1 2 (rf_isO_of q0) rfl (rf_isR_of q1) (by decide +kernel) ?_
    show rf_V 7 (rf_sh w) K 0 0 18 ([(0, .ref a0), (1, .int a1), (2, .long a2), (4, .int a4)], [.ref (a0 + 1)], rf_MM w m)
    refine rf_seg C [(.iload 4, 2)] (pc' := 20) (S' := ([(0, .ref a0), (1, .int a1), (2, .long a2), (4, .int a4)], [.int a4, .ref (a0 + 1)], rf_MM w m)) (by decide +kernel) rfl trivial ?_
    obtain ⟨q4, hg⟩ := rf_g_some hg
    refine rf_d_laload C (rf_isA_of q2) (rf_in_of q4) (by decide +kernel) ?_
    show rf_V 7 (rf_sh w) K 0 0 21 ([(0, .ref a0), (1, .int a1), (2, .long a2), (4, .int a4)], [.long (m.2 (a0 + 1) (Int32.toNatClampNeg a4))], rf_MM w m)
    refine rf_seg C [(.iload 1, 1), (.lshl, 1), (.lload 2, 1), (.lor, 1)] (pc' := 25) (S' := ([(0, .ref a0), (1, .int a1), (2, .long a2), (4, .int a4)], [.long (((m.2 (a0 + 1) (Int32.toNatClampNeg a4)) <<< (Int32.toInt64 a1 &&& 63)) ||| a2)], rf_MM w m)) (by decide +kernel) rfl trivial ?_
    obtain ⟨x5, hx5, hg⟩ := rf_vl_some hg
    refine rf_vl_top hx5 ?_
    refine rf_seg C [(.lstore 5, 2), (.aload 0, 1)] (pc' := 28) (S' := ([(5, .long x5), (0, .ref a0), (1, .int a1), (2, .long a2), (4, .int a4)], [.ref a0], rf_MM w m)) (by decide +kernel) rfl trivial ?_
    refine rf_d_getr C 1 2 (rf_isO_of q0) rfl (rf_isR_of q1) (by decide +kernel) ?_
    show rf_V 7 (rf_sh w) K 0 0 31 ([(5, .long x5), (0, .ref a0), (1, .int a1), (2, .long a2), (4, .int a4)], [.ref (a0 + 1)], rf_MM w m)
    refine rf_seg C [(.iload 4, 2), (.lload 5, 2), (.goto_w 1073741823, 3), (.land, 1)] (pc' := 39) (S' := ([(5, .long x5), (0, .ref a0), (1, .int a1), (2, .long a2), (4, .int a4)], [.long (x5 &&& 1073741823), .int a4, .ref (a0 + 1)], rf_MM w m)) (by decide +kernel) rfl trivial ?_
    obtain ⟨q6, hg⟩ := rf_g_some hg
    refine rf_d_lastore C (rf_isA_of q2) (rf_in_of q6) (by decide +kernel) ?_
    show rf_V 7 (rf_sh w) K 0 0 40 ([(5, .long x5), (0, .ref a0), (1, .int a1), (2, .long a2), (4, .int a4)], [], rf_MM w (rf_l m (a0 + 1) (Int32.toNatClampNeg a4) (x5 &&& 1073741823)))
    refine rf_seg C [(.lload 5, 2), (.iconst 30, 2), (.lshr, 1)] (pc' := 45) (S' := ([(5, .long x5), (0, .ref a0), (1, .int a1), (2, .long a2), (4, .int a4)], [.long (x5 >>> (Int32.toInt64 30 &&& 63))], rf_MM w (rf_l m (a0 + 1) (Int32.toNatClampNeg a4) (x5 &&& 1073741823)))) (by decide +kernel) rfl trivial ?_
    obtain ⟨x7, hx7, hg⟩ := rf_vl_some hg
    refine rf_vl_top hx7 ?_
    refine rf_seg C [(.lstore 2, 1), (.iinc 4 1, 3)] (pc' := 49) (S' := ([(4, .int (a4 + 1)), (2, .long x7), (5, .long x5), (0, .ref a0), (1, .int a1)], [], rf_MM w (rf_l m (a0 + 1) (Int32.toNatClampNeg a4) (x5 &&& 1073741823)))) (by decide +kernel) rfl trivial ?_
    refine rf_goto C (-44) 5 (by decide +kernel) ?_
    refine rf_few [3, 4, 1, 0] rfl ?_
    exact hr5 a0 a1 x7 (a4 + 1) (rf_l m (a0 + 1) (Int32.toNatClampNeg a4) (x5 &&& 1073741823)) hg
theorem s_X1_shiftUp_5 {w : rf_w} {K : rf_K} {r : rf_m} (C : rf_Ctx 1 cX1_shiftUp 7 1 (rf_sh w) K) (hE : rf_End none K (rf_sh w) 0 0 none (rf_MM w r)) (n : Nat) : ∀ (a0 : Nat) (a1 : Int32) (a2 : Int64) (a4 : Int32) (m : rf_m), g_X1_shiftUp_5 w n a0 a1 a2 a4 m = some r → rf_V 7 (rf_sh w) K 0 0 5 ([(0, .ref a0), (1, .int a1), (2, .long a2), (4, .int a4)], [], rf_MM w m) := by
  induction n with
  | zero => intro a0 a1 a2 a4 m hg; cases hg
  | succ n ih => intro a0 a1 a2 a4 m hg; exact s_X1_shiftUp_5_b C hE ih a0 a1 a2 a4 m hg
theorem c_X1_shiftUp {w : rf_w} {m : rf_m} {a0 : Nat} {a1 : Int32} {r : rf_m} (hg : g_X1_shiftUp w m a0 a1 = some r) : rf_Con j_X1_shiftUp 1 (rf_sh w) [.ref a0, .int a1] (rf_MM w m) none (rf_MM w r) := by
  refine rf_con j_X1_shiftUp 1 ⟨by decide +kernel, rfl, Nat.le_of_ble_eq_true rfl⟩ (fun K C hE => ?_)
  unfold g_X1_shiftUp at hg
  show rf_V 7 (rf_sh w) K 0 0 0 ([(0, .ref a0), (1, .int a1)], [], rf_MM w m)
  obtain ⟨q0, hg⟩ := rf_g_some hg
  obtain ⟨q1, hg⟩ := rf_g_some hg
  obtain ⟨q2, hg⟩ := rf_g_some hg
  refine rf_seg C [(.goto_w 0, 1), (.lstore 2, 1), (.iconst 0, 1), (.istore 4, 2)] (pc' := 5) (S' := ([(4, .int 0), (2, .long 0), (0, .ref a0), (1, .int a1)], [], rf_MM w m)) (by decide +kernel) rfl trivial ?_
  refine rf_few [2, 3, 1, 0] rfl ?_
  exact s_X1_shiftUp_5 C hE rf_fuel a0 a1 0 0 m hg
-- X1_setQuotient
abbrev j_X1_setQuotient : rf_J := (1, yX1_setQuotient, cX1_setQuotient, 8, none)
theorem mw_X1_setQuotient : rf_mv j_X1_setQuotient (rf_R 1) 4 := ⟨⟨rf_mem 68 (by decide +kernel), rf_mem 68 (by decide +kernel), rf_mem 5 (by decide +kernel), rf_mem 68 (by decide +kernel)⟩, by decide +kernel, by decide⟩
def g_X1_setQuotient_77_b (w : rf_w) (rec77 : Nat → Nat → Nat → Nat → Nat → Int32 → Int32 → Int32 → rf_m → Option (rf_m)) (a0 : Nat) (a1 : Nat) (a2 : Nat) (a3 : Nat) (a4 : Nat) (a5 : Int32) (a6 : Int32) (a7 : Int32) (m : rf_m) : Option (rf_m) := rf_g (rf_isO w a0 1) (rf_g (rf_isR w a0 2 (a0 + 1)) (rf_g (rf_isA w (a0 + 1) .long 10) (rf_g (rf_isO w a1 1) (rf_g (rf_isR w a1 2 (a1 + 1)) (rf_g (rf_isA w (a1 + 1) .long 10) (rf_g (rf_isO w a2 1) (rf_g (rf_isR w a2 2 (a2 + 1)) (rf_g (rf_isA w (a2 + 1) .long 10) (rf_g (rf_isO w a3 1) (rf_g (rf_isR w a3 2 (a3 + 1)) (rf_g (rf_isA w (a3 + 1) .long 10) (rf_g (rf_isO w a4 1) (rf_g (rf_isR w a4 2 (a4 + 1)) (rf_g (rf_isA w (a4 + 1) .long 10) ((if a7 < 0 then (if (m.1 a1 1) = (m.1 a2 1) then rf_bv (g_X1_settle w m a0 (a5 + 1) 0) fun m15 => rf_bv (g_X1_shiftDown w m15 a3 (m15.1 a2 0) a6) fun m16 => some m16 else rf_bv (g_X1_settle w m a0 (a5 + 1) 1) fun m17 => rf_bv (g_X1_shiftDown w m17 a3 (m17.1 a2 0) a6) fun m18 => some m18) else rf_b (g_X1_takeOut w m a3 a4 (m.1 a2 0) a7) fun y19 m19 => rf_g (rf_in a7 10) (rec77 a0 a1 a2 a3 a4 a5 a6 (a7 + (-1)) (rf_l m19 (a0 + 1) (Int32.toNatClampNeg a7) y19))))))))))))))))))
def g_X1_setQuotient_77 (w : rf_w) : Nat → Nat → Nat → Nat → Nat → Nat → Int32 → Int32 → Int32 → rf_m → Option (rf_m)
  | 0, _, _, _, _, _, _, _, _, _ => none
  | n + 1, a0, a1, a2, a3, a4, a5, a6, a7, m => g_X1_setQuotient_77_b w (g_X1_setQuotient_77 w n) a0 a1 a2 a3 a4 a5 a6 a7 m
def g_X1_setQuotient (w : rf_w) (m : rf_m) (a0 : Nat) (a1 : Nat) (a2 : Nat) (a3 : Nat) (a4 : Nat) : Option (rf_m) := rf_g (rf_isO w a0 1) (rf_g (rf_isR w a0 2 (a0 + 1)) (rf_g (rf_isA w (a0 + 1) .long 10) (rf_g (rf_isO w a1 1) (rf_g (rf_isR w a1 2 (a1 + 1)) (rf_g (rf_isA w (a1 + 1) .long 10) (rf_g (rf_isO w a2 1) (rf_g (rf_isR w a2 2 (a2 + 1)) (rf_g (rf_isA w (a2 + 1) .long 10) (rf_g (rf_isO w a3 1) (rf_g (rf_isR w a3 2 (a3 + 1)) (rf_g (rf_isA w (a3 + 1) .long 10) (rf_g (rf_isO w a4 1) (rf_g (rf_isR w a4 2 (a4 + 1)) (rf_g (rf_isA w (a4 + 1) .long 10) (rf_bv (g_X1_copyFrom w m a3 a1) fun m15 => rf_vi ((m15.1 a1 0) - (m15.1 a2 0)) fun x16 => (if (m15.1 a2 0) = 0 then rf_bv (g_X1_settle w m15 a0 0 0) fun m17 => some m17 else (if (0 : Int32) ≤ x16 then rf_g (rf_in ((m15.1 a2 0) - 1) 10) (rf_b (g_J13_numberOfLeadingZeros_95d88 w m15 (m15.2 (a2 + 1) (Int32.toNatClampNeg ((m15.1 a2 0) - 1)))) fun y19 m19 => rf_bv (g_X1_shiftUp w m19 a3 (y19 - 34)) fun m20 => rf_bv (g_X1_copyFrom w m20 a4 a2) fun m21 => rf_bv (g_X1_shiftUp w m21 a4 (y19 - 34)) fun m22 => g_X1_setQuotient_77 w rf_fuel a0 a1 a2 a3 a4 x16 (y19 - 34) x16 m22) else rf_bv (g_X1_settle w m15 a0 0 0) fun m23 => some m23)))))))))))))))))
theorem s_X1_setQuotient_77_b {w : rf_w} {K : rf_K} {r : rf_m} (C : rf_Ctx 1 cX1_setQuotient 8 4 (rf_sh w) K) (hE : rf_End none K (rf_sh w) 0 0 none (rf_MM w r)) {rec77 : Nat → Nat → Nat → Nat → Nat → Int32 → Int32 → Int32 → rf_m → Option (rf_m)} (hr77 : ∀ (a0 : Nat) (a1 : Nat) (a2 : Nat) (a3 : Nat) (a4 : Nat) (a5 : Int32) (a6 : Int32) (a7 : Int32) (m : rf_m), rec77 a0 a1 a2 a3 a4 a5 a6 a7 m = some r → rf_V 8 (rf_sh w) K 0 0 77 ([(0, .ref a0), (1, .ref a1), (2, .ref a2), (3, .ref a3), (4, .ref a4), (5, .int a5), (6, .int a6), (7, .int a7)], [], rf_MM w m)) (a0 : Nat) (a1 : Nat) (a2 : Nat) (a3 : Nat) (a4 : Nat) (a5 : Int32) (a6 : Int32) (a7 : Int32) (m : rf_m) (hg : g_X1_setQuotient_77_b w rec77 a0 a1 a2 a3 a4 a5 a6 a7 m = some r) : rf_V 8 (rf_sh w) K 0 0 77 ([(0, .ref a0), (1, .ref a1), (2, .ref a2), (3, .ref a3), (4, .ref a4), (5, .int a5), (6, .int a6), (7, .int a7)], [], rf_MM w m) := by
  unfold g_X1_setQuotient_77_b at hg
  obtain ⟨q0, hg⟩ := rf_g_some hg
  obtain ⟨q1, hg⟩ := rf_g_some hg
  obtain ⟨q2, hg⟩ := rf_g_some hg
  obtain ⟨q3, hg⟩ := rf_g_some hg
  obtain ⟨q4, hg⟩ := rf_g_some hg
  obtain ⟨q5, hg⟩ := rf_g_some hg
  obtain ⟨q6, hg⟩ := rf_g_some hg
  obtain ⟨q7, hg⟩ := rf_g_some hg
  obtain ⟨q8, hg⟩ := rf_g_some hg
  obtain ⟨q9, hg⟩ := rf_g_some hg
  obtain ⟨q10, hg⟩ := rf_g_some hg
  obtain ⟨q11, hg⟩ := rf_g_some hg
  obtain ⟨q12, hg⟩ := rf_g_some hg
  obtain ⟨q13, hg⟩ := rf_g_some hg
  obtain ⟨q14, hg⟩ := rf_g_some hg
  refine rf_seg C [(.iload 7, 2)] (pc' := 79) (S' := ([(0, .ref a0), (1, .ref a1), (2, .ref a2), (3, .ref a3), (4, .ref a4), (5, .int a5), (6, .int a6), (7, .int a7)], [.int a7], rf_MM w m)) (by decide +kernel) rfl trivial ?_
  refine rf_if_lt C 28 107 (by decide +kernel) (fun hc => ?_) (fun hc => ?_)
  · replace hg := (if_pos hc).symm.trans hg
    refine rf_seg C [(.aload 0, 1), (.iload 5, 2), (.iconst 1, 1), (.iadd, 1), (.aload 1, 1)] (pc' := 113) (S' := ([(0, .ref a0), (1, .ref a1), (2, .ref a2), (3, .ref a3), (4, .ref a4), (5, .int a5), (6, .int a6), (7, .int a7)], [.ref a1, .int (a5 + 1), .ref a0], rf_MM w m)) (by decide +kernel) rfl trivial ?_
    refine rf_d_get C 1 1 (rf_isO_of q3) (by decide +kernel) ?_
    show rf_V 8 (rf_sh w) K 0 0 116 ([(0, .ref a0), (1, .ref a1), (2, .ref a2), (3, .ref a3), (4, .ref a4), (5, .int a5), (6, .int a6), (7, .int a7)], [.int (m.1 a1 1), .int (a5 + 1), .ref a0], rf_MM w m)
    refine rf_seg C [(.aload 2, 1)] (pc' := 117) (S' := ([(0, .ref a0), (1, .ref a1), (2, .ref a2), (3, .ref a3), (4, .ref a4), (5, .int a5), (6, .int a6), (7, .int a7)], [.ref a2, .int (m.1 a1 1), .int (a5 + 1), .ref a0], rf_MM w m)) (by decide +kernel) rfl trivial ?_
    refine rf_d_get C 1 1 (rf_isO_of q6) (by decide +kernel) ?_
    show rf_V 8 (rf_sh w) K 0 0 120 ([(0, .ref a0), (1, .ref a1), (2, .ref a2), (3, .ref a3), (4, .ref a4), (5, .int a5), (6, .int a6), (7, .int a7)], [.int (m.1 a2 1), .int (m.1 a1 1), .int (a5 + 1), .ref a0], rf_MM w m)
    refine rf_icmp_eq C 7 127 (by decide +kernel) (fun hc => ?_) (fun hc => ?_)
    · replace hg := (if_pos hc).symm.trans hg
      refine rf_seg C [(.iconst 0, 1)] (pc' := 128) (S' := ([(0, .ref a0), (1, .ref a1), (2, .ref a2), (3, .ref a3), (4, .ref a4), (5, .int a5), (6, .int a6), (7, .int a7)], [.int 0, .int (a5 + 1), .ref a0], rf_MM w m)) (by decide +kernel) rfl trivial ?_
      obtain ⟨m15, hc15, hg⟩ := rf_bv_some hg
      refine rf_callv C rf_fit0 j_X1_settle (ci := 1) (As := [.int (a5 + 1), .int 0]) (rest := []) mw_X1_settle (c_X1_settle hc15) (by decide) (rf_isO_of q0) (by decide) lk_1_43 rfl rfl (Nat.le_of_ble_eq_true rfl) (by decide +kernel) ?_
      show rf_V 8 (rf_sh w) K 0 0 131 ([(0, .ref a0), (1, .ref a1), (2, .ref a2), (3, .ref a3), (4, .ref a4), (5, .int a5), (6, .int a6), (7, .int a7)], [], rf_MM w m15)
      refine rf_seg C [(.aload 3, 1), (.aload 2, 1)] (pc' := 133) (S' := ([(0, .ref a0), (1, .ref a1), (2, .ref a2), (3, .ref a3), (4, .ref a4), (5, .int a5), (6, .int a6), (7, .int a7)], [.ref a2, .ref a3], rf_MM w m15)) (by decide +kernel) rfl trivial ?_
      refine rf_d_get C 1 0 (rf_isO_of q6) (by decide +kernel) ?_
      show rf_V 8 (rf_sh w) K 0 0 136 ([(0, .ref a0), (1, .ref a1), (2, .ref a2), (3, .ref a3), (4, .ref a4), (5, .int a5), (6, .int a6), (7, .int a7)], [.int (m15.1 a2 0), .ref a3], rf_MM w m15)
      refine rf_seg C [(.iload 6, 2)] (pc' := 138) (S' := ([(0, .ref a0), (1, .ref a1), (2, .ref a2), (3, .ref a3), (4, .ref a4), (5, .int a5), (6, .int a6), (7, .int a7)], [.int a6, .int (m15.1 a2 0), .ref a3], rf_MM w m15)) (by decide +kernel) rfl trivial ?_
      obtain ⟨m16, hc16, hg⟩ := rf_bv_some hg
      refine rf_callv C rf_fit0 j_X1_shiftDown (ci := 1) (As := [.int (m15.1 a2 0), .int a6]) (rest := []) mw_X1_shiftDown (c_X1_shiftDown hc16) (by decide) (rf_isO_of q9) (by decide) lk_1_80 rfl rfl (Nat.le_of_ble_eq_true rfl) (by decide +kernel) ?_
      show rf_V 8 (rf_sh w) K 0 0 141 ([(0, .ref a0), (1, .ref a1), (2, .ref a2), (3, .ref a3), (4, .ref a4), (5, .int a5), (6, .int a6), (7, .int a7)], [], rf_MM w m16)
      obtain rfl := Option.some.inj hg
      exact rf_vret C hE (by decide +kernel)
    · replace hg := (if_neg hc).symm.trans hg
      refine rf_seg C [(.iconst 1, 1)] (pc' := 124) (S' := ([(0, .ref a0), (1, .ref a1), (2, .ref a2), (3, .ref a3), (4, .ref a4), (5, .int a5), (6, .int a6), (7, .int a7)], [.int 1, .int (a5 + 1), .ref a0], rf_MM w m)) (by decide +kernel) rfl trivial ?_
      refine rf_goto C 4 128 (by decide +kernel) ?_
      obtain ⟨m17, hc17, hg⟩ := rf_bv_some hg
      refine rf_callv C rf_fit0 j_X1_settle (ci := 1) (As := [.int (a5 + 1), .int 1]) (rest := []) mw_X1_settle (c_X1_settle hc17) (by decide) (rf_isO_of q0) (by decide) lk_1_43 rfl rfl (Nat.le_of_ble_eq_true rfl) (by decide +kernel) ?_
      show rf_V 8 (rf_sh w) K 0 0 131 ([(0, .ref a0), (1, .ref a1), (2, .ref a2), (3, .ref a3), (4, .ref a4), (5, .int a5), (6, .int a6), (7, .int a7)], [], rf_MM w m17)
      refine rf_seg C [(.aload 3, 1), (.aload 2, 1)] (pc' := 133) (S' := ([(0, .ref a0), (1, .ref a1), (2, .ref a2), (3, .ref a3), (4, .ref a4), (5, .int a5), (6, .int a6), (7, .int a7)], [.ref a2, .ref a3], rf_MM w m17)) (by decide +kernel) rfl trivial ?_
      refine rf_d_get C 1 0 (rf_isO_of q6) (by decide +kernel) ?_
      show rf_V 8 (rf_sh w) K 0 0 136 ([(0, .ref a0), (1, .ref a1), (2, .ref a2), (3, .ref a3), (4, .ref a4), (5, .int a5), (6, .int a6), (7, .int a7)], [.int (m17.1 a2 0), .ref a3], rf_MM w m17)
      refine rf_seg C [(.iload 6, 2)] (pc' := 138) (S' := ([(0, .ref a0), (1, .ref a1), (2, .ref a2), (3, .ref a3), (4, .ref a4), (5, .int a5), (6, .int a6), (7, .int a7)], [.int a6, .int (m17.1 a2 0), .ref a3], rf_MM w m17)) (by decide +kernel) rfl trivial ?_
      obtain ⟨m18, hc18, hg⟩ := rf_bv_some hg
      refine rf_callv C rf_fit0 j_X1_shiftDown (ci := 1) (As := [.int (m17.1 a2 0), .int a6]) (rest := []) mw_X1_shiftDown (c_X1_shiftDown hc18) (by decide) (rf_isO_of q9) (by decide) lk_1_80 rfl rfl (Nat.le_of_ble_eq_true rfl) (by decide +kernel) ?_
      show rf_V 8 (rf_sh w) K 0 0 141 ([(0, .ref a0), (1, .ref a1), (2, .ref a2), (3, .ref a3), (4, .ref a4), (5, .int a5), (6, .int a6), (7, .int a7)], [], rf_MM w m18)
      obtain rfl := Option.some.inj hg
      exact rf_vret C hE (by decide +kernel)
  · replace hg := (if_neg hc).symm.trans hg
    refine rf_seg C [(.aload 0, 1)] (pc' := 83) (S' := ([(0, .ref a0), (1, .ref a1), (2, .ref a2), (3, .ref a3), (4, .ref a4), (5, .int a5), (6, .int a6), (7, .int a7)], [.ref a0], rf_MM w m)) (by decide +kernel) rfl trivial ?_
    refine rf_d_getr C 1 2 (rf_isO_of q0) rfl (rf_isR_of q1) (by decide +kernel) ?_
    show rf_V 8 (rf_sh w) K 0 0 86 ([(0, .ref a0), (1, .ref a1), (2, .ref a2), (3, .ref a3), (4, .ref a4), (5, .int a5), (6, .int a6), (7, .int a7)], [.ref (a0 + 1)], rf_MM w m)
    refine rf_seg C [(.iload 7, 2), (.aload 3, 1), (.aload 4, 2), (.aload 2, 1)] (pc' := 92) (S' := ([(0, .ref a0), (1, .ref a1), (2, .ref a2), (3, .ref a3), (4, .ref a4), (5, .int a5), (6, .int a6), (7, .int a7)], [.ref a2, .ref a4, .ref a3, .int a7, .ref (a0 + 1)], rf_MM w m)) (by decide +kernel) rfl trivial ?_
    refine rf_d_get C 1 0 (rf_isO_of q6) (by decide +kernel) ?_
    show rf_V 8 (rf_sh w) K 0 0 95 ([(0, .ref a0), (1, .ref a1), (2, .ref a2), (3, .ref a3), (4, .ref a4), (5, .int a5), (6, .int a6), (7, .int a7)], [.int (m.1 a2 0), .ref a4, .ref a3, .int a7, .ref (a0 + 1)], rf_MM w m)
    refine rf_seg C [(.iload 7, 2)] (pc' := 97) (S' := ([(0, .ref a0), (1, .ref a1), (2, .ref a2), (3, .ref a3), (4, .ref a4), (5, .int a5), (6, .int a6), (7, .int a7)], [.int a7, .int (m.1 a2 0), .ref a4, .ref a3, .int a7, .ref (a0 + 1)], rf_MM w m)) (by decide +kernel) rfl trivial ?_
    obtain ⟨y19, m19, hc19, hg⟩ := rf_b_some hg
    refine rf_callv C rf_fit0 j_X1_takeOut (ci := 1) (As := [.ref a4, .int (m.1 a2 0), .int a7]) (rest := [.int a7, .ref (a0 + 1)]) mw_X1_takeOut (c_X1_takeOut hc19) (by decide) (rf_isO_of q9) (by decide) lk_1_76 rfl rfl (Nat.le_of_ble_eq_true rfl) (by decide +kernel) ?_
    show rf_V 8 (rf_sh w) K 0 0 100 ([(0, .ref a0), (1, .ref a1), (2, .ref a2), (3, .ref a3), (4, .ref a4), (5, .int a5), (6, .int a6), (7, .int a7)], [.long y19, .int a7, .ref (a0 + 1)], rf_MM w m19)
    obtain ⟨q20, hg⟩ := rf_g_some hg
    refine rf_d_lastore C (rf_isA_of q2) (rf_in_of q20) (by decide +kernel) ?_
    show rf_V 8 (rf_sh w) K 0 0 101 ([(0, .ref a0), (1, .ref a1), (2, .ref a2), (3, .ref a3), (4, .ref a4), (5, .int a5), (6, .int a6), (7, .int a7)], [], rf_MM w (rf_l m19 (a0 + 1) (Int32.toNatClampNeg a7) y19))
    refine rf_seg C [(.iinc 7 (-1), 3)] (pc' := 104) (S' := ([(7, .int (a7 + (-1))), (0, .ref a0), (1, .ref a1), (2, .ref a2), (3, .ref a3), (4, .ref a4), (5, .int a5), (6, .int a6)], [], rf_MM w (rf_l m19 (a0 + 1) (Int32.toNatClampNeg a7) y19))) (by decide +kernel) rfl trivial ?_
    refine rf_goto C (-27) 77 (by decide +kernel) ?_
    refine rf_few [1, 2, 3, 4, 5, 6, 7, 0] rfl ?_
    exact hr77 a0 a1 a2 a3 a4 a5 a6 (a7 + (-1)) (rf_l m19 (a0 + 1) (Int32.toNatClampNeg a7) y19) hg
theorem s_X1_setQuotient_77 {w : rf_w} {K : rf_K} {r : rf_m} (C : rf_Ctx 1 cX1_setQuotient 8 4 (rf_sh w) K) (hE : rf_End none K (rf_sh w) 0 0 none (rf_MM w r)) (n : Nat) : ∀ (a0 : Nat) (a1 : Nat) (a2 : Nat) (a3 : Nat) (a4 : Nat) (a5 : Int32) (a6 : Int32) (a7 : Int32) (m : rf_m), g_X1_setQuotient_77 w n a0 a1 a2 a3 a4 a5 a6 a7 m = some r → rf_V 8 (rf_sh w) K 0 0 77 ([(0, .ref a0), (1, .ref a1), (2, .ref a2), (3, .ref a3), (4, .ref a4), (5, .int a5), (6, .int a6), (7, .int a7)], [], rf_MM w m) := by
  induction n with
  | zero => intro a0 a1 a2 a3 a4 a5 a6 a7 m hg; cases hg
  | succ n ih => intro a0 a1 a2 a3 a4 a5 a6 a7 m hg; exact s_X1_setQuotient_77_b C hE ih a0 a1 a2 a3 a4 a5 a6 a7 m hg
theorem c_X1_setQuotient {w : rf_w} {m : rf_m} {a0 : Nat} {a1 : Nat} {a2 : Nat} {a3 : Nat} {a4 : Nat} {r : rf_m} (hg : g_X1_setQuotient w m a0 a1 a2 a3 a4 = some r) : rf_Con j_X1_setQuotient 4 (rf_sh w) [.ref a0, .ref a1, .ref a2, .ref a3, .ref a4] (rf_MM w m) none (rf_MM w r) := by
  refine rf_con j_X1_setQuotient 4 ⟨by decide +kernel, rfl, Nat.le_of_ble_eq_true rfl⟩ (fun K C hE => ?_)
  unfold g_X1_setQuotient at hg
  show rf_V 8 (rf_sh w) K 0 0 0 ([(0, .ref a0), (1, .ref a1), (2, .ref a2), (3, .ref a3), (4, .ref a4)], [], rf_MM w m)
  obtain ⟨q0, hg⟩ := rf_g_some hg
  obtain ⟨q1, hg⟩ := rf_g_some hg
  obtain ⟨q2, hg⟩ := rf_g_some hg
  obtain ⟨q3, hg⟩ := rf_g_some hg
  obtain ⟨q4, hg⟩ := rf_g_some hg
  obtain ⟨q5, hg⟩ := rf_g_some hg
  obtain ⟨q6, hg⟩ := rf_g_some hg
  obtain ⟨q7, hg⟩ := rf_g_some hg
  obtain ⟨q8, hg⟩ := rf_g_some hg
  obtain ⟨q9, hg⟩ := rf_g_some hg
  obtain ⟨q10, hg⟩ := rf_g_some hg
  obtain ⟨q11, hg⟩ := rf_g_some hg
  obtain ⟨q12, hg⟩ := rf_g_some hg
  obtain ⟨q13, hg⟩ := rf_g_some hg
  obtain ⟨q14, hg⟩ := rf_g_some hg
  refine rf_seg C [(.aload 3, 1), (.aload 1, 1)] (pc' := 2) (S' := ([(0, .ref a0), (1, .ref a1), (2, .ref a2), (3, .ref a3), (4, .ref a4)], [.ref a1, .ref a3], rf_MM w m)) (by decide +kernel) rfl trivial ?_
  obtain ⟨m15, hc15, hg⟩ := rf_bv_some hg
  refine rf_callv C rf_fit0 j_X1_copyFrom (ci := 1) (As := [.ref a1]) (rest := []) mw_X1_copyFrom (c_X1_copyFrom hc15) (by decide) (rf_isO_of q9) (by decide) lk_1_63 rfl rfl (Nat.le_of_ble_eq_true rfl) (by decide +kernel) ?_
  show rf_V 8 (rf_sh w) K 0 0 5 ([(0, .ref a0), (1, .ref a1), (2, .ref a2), (3, .ref a3), (4, .ref a4)], [], rf_MM w m15)
  refine rf_seg C [(.aload 1, 1)] (pc' := 6) (S' := ([(0, .ref a0), (1, .ref a1), (2, .ref a2), (3, .ref a3), (4, .ref a4)], [.ref a1], rf_MM w m15)) (by decide +kernel) rfl trivial ?_
  refine rf_d_get C 1 0 (rf_isO_of q3) (by decide +kernel) ?_
  show rf_V 8 (rf_sh w) K 0 0 9 ([(0, .ref a0), (1, .ref a1), (2, .ref a2), (3, .ref a3), (4, .ref a4)], [.int (m15.1 a1 0)], rf_MM w m15)
  refine rf_seg C [(.aload 2, 1)] (pc' := 10) (S' := ([(0, .ref a0), (1, .ref a1), (2, .ref a2), (3, .ref a3), (4, .ref a4)], [.ref a2, .int (m15.1 a1 0)], rf_MM w m15)) (by decide +kernel) rfl trivial ?_
  refine rf_d_get C 1 0 (rf_isO_of q6) (by decide +kernel) ?_
  show rf_V 8 (rf_sh w) K 0 0 13 ([(0, .ref a0), (1, .ref a1), (2, .ref a2), (3, .ref a3), (4, .ref a4)], [.int (m15.1 a2 0), .int (m15.1 a1 0)], rf_MM w m15)
  refine rf_seg C [(.isub, 1)] (pc' := 14) (S' := ([(0, .ref a0), (1, .ref a1), (2, .ref a2), (3, .ref a3), (4, .ref a4)], [.int ((m15.1 a1 0) - (m15.1 a2 0))], rf_MM w m15)) (by decide +kernel) rfl trivial ?_
  obtain ⟨x16, hx16, hg⟩ := rf_vi_some hg
  refine rf_vi_top hx16 ?_
  refine rf_seg C [(.istore 5, 2), (.aload 2, 1)] (pc' := 17) (S' := ([(5, .int x16), (0, .ref a0), (1, .ref a1), (2, .ref a2), (3, .ref a3), (4, .ref a4)], [.ref a2], rf_MM w m15)) (by decide +kernel) rfl trivial ?_
  refine rf_d_get C 1 0 (rf_isO_of q6) (by decide +kernel) ?_
  show rf_V 8 (rf_sh w) K 0 0 20 ([(5, .int x16), (0, .ref a0), (1, .ref a1), (2, .ref a2), (3, .ref a3), (4, .ref a4)], [.int (m15.1 a2 0)], rf_MM w m15)
  refine rf_if_eq C 8 28 (by decide +kernel) (fun hc => ?_) (fun hc => ?_)
  · replace hg := (if_pos hc).symm.trans hg
    refine rf_seg C [(.aload 0, 1), (.iconst 0, 1), (.iconst 0, 1)] (pc' := 31) (S' := ([(5, .int x16), (0, .ref a0), (1, .ref a1), (2, .ref a2), (3, .ref a3), (4, .ref a4)], [.int 0, .int 0, .ref a0], rf_MM w m15)) (by decide +kernel) rfl trivial ?_
    obtain ⟨m17, hc17, hg⟩ := rf_bv_some hg
    refine rf_callv C rf_fit0 j_X1_settle (ci := 1) (As := [.int 0, .int 0]) (rest := []) mw_X1_settle (c_X1_settle hc17) (by decide) (rf_isO_of q0) (by decide) lk_1_43 rfl rfl (Nat.le_of_ble_eq_true rfl) (by decide +kernel) ?_
    show rf_V 8 (rf_sh w) K 0 0 34 ([(5, .int x16), (0, .ref a0), (1, .ref a1), (2, .ref a2), (3, .ref a3), (4, .ref a4)], [], rf_MM w m17)
    obtain rfl := Option.some.inj hg
    exact rf_vret C hE (by decide +kernel)
  · replace hg := (if_neg hc).symm.trans hg
    refine rf_seg C [(.iload 5, 2)] (pc' := 25) (S' := ([(5, .int x16), (0, .ref a0), (1, .ref a1), (2, .ref a2), (3, .ref a3), (4, .ref a4)], [.int x16], rf_MM w m15)) (by decide +kernel) rfl trivial ?_
    refine rf_if_ge C 10 35 (by decide +kernel) (fun hc => ?_) (fun hc => ?_)
    · replace hg := (if_pos hc).symm.trans hg
      refine rf_seg C [(.aload 2, 1)] (pc' := 36) (S' := ([(5, .int x16), (0, .ref a0), (1, .ref a1), (2, .ref a2), (3, .ref a3), (4, .ref a4)], [.ref a2], rf_MM w m15)) (by decide +kernel) rfl trivial ?_
      refine rf_d_getr C 1 2 (rf_isO_of q6) rfl (rf_isR_of q7) (by decide +kernel) ?_
      show rf_V 8 (rf_sh w) K 0 0 39 ([(5, .int x16), (0, .ref a0), (1, .ref a1), (2, .ref a2), (3, .ref a3), (4, .ref a4)], [.ref (a2 + 1)], rf_MM w m15)
      refine rf_seg C [(.aload 2, 1)] (pc' := 40) (S' := ([(5, .int x16), (0, .ref a0), (1, .ref a1), (2, .ref a2), (3, .ref a3), (4, .ref a4)], [.ref a2, .ref (a2 + 1)], rf_MM w m15)) (by decide +kernel) rfl trivial ?_
      refine rf_d_get C 1 0 (rf_isO_of q6) (by decide +kernel) ?_
      show rf_V 8 (rf_sh w) K 0 0 43 ([(5, .int x16), (0, .ref a0), (1, .ref a1), (2, .ref a2), (3, .ref a3), (4, .ref a4)], [.int (m15.1 a2 0), .ref (a2 + 1)], rf_MM w m15)
      refine rf_seg C [(.iconst 1, 1), (.isub, 1)] (pc' := 45) (S' := ([(5, .int x16), (0, .ref a0), (1, .ref a1), (2, .ref a2), (3, .ref a3), (4, .ref a4)], [.int ((m15.1 a2 0) - 1), .ref (a2 + 1)], rf_MM w m15)) (by decide +kernel) rfl trivial ?_
      obtain ⟨q18, hg⟩ := rf_g_some hg
      refine rf_d_laload C (rf_isA_of q8) (rf_in_of q18) (by decide +kernel) ?_
      show rf_V 8 (rf_sh w) K 0 0 46 ([(5, .int x16), (0, .ref a0), (1, .ref a1), (2, .ref a2), (3, .ref a3), (4, .ref a4)], [.long (m15.2 (a2 + 1) (Int32.toNatClampNeg ((m15.1 a2 0) - 1)))], rf_MM w m15)
      obtain ⟨y19, m19, hc19, hg⟩ := rf_b_some hg
      refine rf_calls C rf_fit0 j_J13_numberOfLeadingZeros_95d88 (As := [.long (m15.2 (a2 + 1) (Int32.toNatClampNeg ((m15.1 a2 0) - 1)))]) (rest := []) mw_J13_numberOfLeadingZeros_95d88 (c_J13_numberOfLeadingZeros_95d88 hc19) (by decide) lk_1_66 rfl rfl (Nat.le_of_ble_eq_true rfl) (by decide +kernel) ?_
      show rf_V 8 (rf_sh w) K 0 0 49 ([(5, .int x16), (0, .ref a0), (1, .ref a1), (2, .ref a2), (3, .ref a3), (4, .ref a4)], [.int y19], rf_MM w m19)
      refine rf_seg C [(.iconst 34, 2), (.isub, 1), (.istore 6, 2), (.aload 3, 1), (.iload 6, 2)] (pc' := 57) (S' := ([(6, .int (y19 - 34)), (5, .int x16), (0, .ref a0), (1, .ref a1), (2, .ref a2), (3, .ref a3), (4, .ref a4)], [.int (y19 - 34), .ref a3], rf_MM w m19)) (by decide +kernel) rfl trivial ?_
      obtain ⟨m20, hc20, hg⟩ := rf_bv_some hg
      refine rf_callv C rf_fit0 j_X1_shiftUp (ci := 1) (As := [.int (y19 - 34)]) (rest := []) mw_X1_shiftUp (c_X1_shiftUp hc20) (by decide) (rf_isO_of q9) (by decide) lk_1_72 rfl rfl (Nat.le_of_ble_eq_true rfl) (by decide +kernel) ?_
      show rf_V 8 (rf_sh w) K 0 0 60 ([(6, .int (y19 - 34)), (5, .int x16), (0, .ref a0), (1, .ref a1), (2, .ref a2), (3, .ref a3), (4, .ref a4)], [], rf_MM w m20)
      refine rf_seg C [(.aload 4, 2), (.aload 2, 1)] (pc' := 63) (S' := ([(6, .int (y19 - 34)), (5, .int x16), (0, .ref a0), (1, .ref a1), (2, .ref a2), (3, .ref a3), (4, .ref a4)], [.ref a2, .ref a4], rf_MM w m20)) (by decide +kernel) rfl trivial ?_
      obtain ⟨m21, hc21, hg⟩ := rf_bv_some hg
      refine rf_callv C rf_fit0 j_X1_copyFrom (ci := 1) (As := [.ref a2]) (rest := []) mw_X1_copyFrom (c_X1_copyFrom hc21) (by decide) (rf_isO_of q12) (by decide) lk_1_63 rfl rfl (Nat.le_of_ble_eq_true rfl) (by decide +kernel) ?_
      show rf_V 8 (rf_sh w) K 0 0 66 ([(6, .int (y19 - 34)), (5, .int x16), (0, .ref a0), (1, .ref a1), (2, .ref a2), (3, .ref a3), (4, .ref a4)], [], rf_MM w m21)
      refine rf_seg C [(.aload 4, 2), (.iload 6, 2)] (pc' := 70) (S' := ([(6, .int (y19 - 34)), (5, .int x16), (0, .ref a0), (1, .ref a1), (2, .ref a2), (3, .ref a3), (4, .ref a4)], [.int (y19 - 34), .ref a4], rf_MM w m21)) (by decide +kernel) rfl trivial ?_
      obtain ⟨m22, hc22, hg⟩ := rf_bv_some hg
      refine rf_callv C rf_fit0 j_X1_shiftUp (ci := 1) (As := [.int (y19 - 34)]) (rest := []) mw_X1_shiftUp (c_X1_shiftUp hc22) (by decide) (rf_isO_of q12) (by decide) lk_1_72 rfl rfl (Nat.le_of_ble_eq_true rfl) (by decide +kernel) ?_
      show rf_V 8 (rf_sh w) K 0 0 73 ([(6, .int (y19 - 34)), (5, .int x16), (0, .ref a0), (1, .ref a1), (2, .ref a2), (3, .ref a3), (4, .ref a4)], [], rf_MM w m22)
      refine rf_seg C [(.iload 5, 2), (.istore 7, 2)] (pc' := 77) (S' := ([(7, .int x16), (6, .int (y19 - 34)), (5, .int x16), (0, .ref a0), (1, .ref a1), (2, .ref a2), (3, .ref a3), (4, .ref a4)], [], rf_MM w m22)) (by decide +kernel) rfl trivial ?_
      refine rf_few [3, 4, 5, 6, 7, 2, 1, 0] rfl ?_
      exact s_X1_setQuotient_77 C hE rf_fuel a0 a1 a2 a3 a4 x16 (y19 - 34) x16 m22 hg
    · replace hg := (if_neg hc).symm.trans hg
      refine rf_seg C [(.aload 0, 1), (.iconst 0, 1), (.iconst 0, 1)] (pc' := 31) (S' := ([(5, .int x16), (0, .ref a0), (1, .ref a1), (2, .ref a2), (3, .ref a3), (4, .ref a4)], [.int 0, .int 0, .ref a0], rf_MM w m15)) (by decide +kernel) rfl trivial ?_
      obtain ⟨m23, hc23, hg⟩ := rf_bv_some hg
      refine rf_callv C rf_fit0 j_X1_settle (ci := 1) (As := [.int 0, .int 0]) (rest := []) mw_X1_settle (c_X1_settle hc23) (by decide) (rf_isO_of q0) (by decide) lk_1_43 rfl rfl (Nat.le_of_ble_eq_true rfl) (by decide +kernel) ?_
      show rf_V 8 (rf_sh w) K 0 0 34 ([(5, .int x16), (0, .ref a0), (1, .ref a1), (2, .ref a2), (3, .ref a3), (4, .ref a4)], [], rf_MM w m23)
      obtain rfl := Option.some.inj hg
      exact rf_vret C hE (by decide +kernel)
-- X0_eliminate
abbrev j_X0_eliminate : rf_J := (0, yX0_eliminate, cX0_eliminate, 6, none)
theorem mw_X0_eliminate : rf_mv j_X0_eliminate (rf_R 0) 3 := ⟨⟨rf_mem 66 (by decide +kernel), rf_mem 66 (by decide +kernel), rf_mem 1 (by decide +kernel), rf_mem 66 (by decide +kernel)⟩, by decide +kernel, by decide⟩
def g_X0_eliminate_124 (w : rf_w) (rec21 : Int32 → Int32 → Nat → Int32 → rf_m → Option (rf_m)) (a1 : Int32) (a2 : Int32) (a3 : Nat) (a4 : Int32) (m : rf_m) : Option (rf_m) := rf_g (rf_isO w a3 1) (rf_g (rf_isR w a3 2 (a3 + 1)) (rf_g (rf_isA w (a3 + 1) .long 10) (rec21 a1 a2 a3 (a4 + 1) m)))
def g_X0_eliminate_44 (w : rf_w) (rec21 : Int32 → Int32 → Nat → Int32 → rf_m → Option (rf_m)) (a1 : Int32) (a2 : Int32) (a3 : Nat) (a4 : Int32) (m : rf_m) : Option (rf_m) := rf_g (rf_isO w a3 1) (rf_g (rf_isR w a3 2 (a3 + 1)) (rf_g (rf_isA w (a3 + 1) .long 10) (rf_g (rf_in ((a1 * 7) + a4) 42) (rf_o (rf_Rt w 61 (Int32.toNatClampNeg ((a1 * 7) + a4))) fun k4 => rf_g (rf_isO w k4 1) (rf_g (rf_isR w k4 2 (k4 + 1)) (rf_g (rf_isA w (k4 + 1) .long 10) (rf_bv (g_X1_setProduct w m 67 a3 k4) fun m8 => rf_g (rf_in ((a2 * 7) + a4) 42) (rf_o (rf_Rt w 61 (Int32.toNatClampNeg ((a2 * 7) + a4))) fun k10 => rf_g (rf_isO w k10 1) (rf_g (rf_isR w k10 2 (k10 + 1)) (rf_g (rf_isA w (k10 + 1) .long 10) (rf_bv (g_X1_setProduct w m8 69 71 k10) fun m14 => rf_bv (g_X1_addSigned w m14 67 69 1) fun m15 => rf_bv (g_X1_setQuotient w m15 k4 67 65 75 77) fun m16 => g_X0_eliminate_124 w rec21 a1 a2 a3 a4 m16)))))))))))
def g_X0_eliminate_21_b (w : rf_w) (rec21 : Int32 → Int32 → Nat → Int32 → rf_m → Option (rf_m)) (a1 : Int32) (a2 : Int32) (a3 : Nat) (a4 : Int32) (m : rf_m) : Option (rf_m) := rf_g (rf_isO w a3 1) (rf_g (rf_isR w a3 2 (a3 + 1)) (rf_g (rf_isA w (a3 + 1) .long 10) ((if 7 ≤ a4 then some m else (if a4 < (m.1 55 8) then g_X0_eliminate_44 w rec21 a1 a2 a3 a4 m else (if a4 = 6 then g_X0_eliminate_44 w rec21 a1 a2 a3 a4 m else g_X0_eliminate_124 w rec21 a1 a2 a3 a4 m))))))
def g_X0_eliminate_21 (w : rf_w) : Nat → Int32 → Int32 → Nat → Int32 → rf_m → Option (rf_m)
  | 0, _, _, _, _, _ => none
  | n + 1, a1, a2, a3, a4, m => g_X0_eliminate_21_b w (g_X0_eliminate_21 w n) a1 a2 a3 a4 m
def g_X0_eliminate (w : rf_w) (m : rf_m) (a1 : Int32) (a2 : Int32) (a3 : Nat) : Option (rf_m) := rf_g (rf_isO w a3 1) (rf_g (rf_isR w a3 2 (a3 + 1)) (rf_g (rf_isA w (a3 + 1) .long 10) (rf_g (rf_in ((a1 * 7) + a2) 42) (rf_o (rf_Rt w 61 (Int32.toNatClampNeg ((a1 * 7) + a2))) fun k4 => rf_g (rf_isO w k4 1) (rf_g (rf_isR w k4 2 (k4 + 1)) (rf_g (rf_isA w (k4 + 1) .long 10) (rf_bv (g_X1_copyFrom w m 71 k4) fun m8 => g_X0_eliminate_21 w rf_fuel a1 a2 a3 0 m8)))))))
theorem s_X0_eliminate_124 {w : rf_w} {K : rf_K} {r : rf_m} (C : rf_Ctx 0 cX0_eliminate 6 5 (rf_sh w) K) (hE : rf_End none K (rf_sh w) 0 0 none (rf_MM w r)) {rec21 : Int32 → Int32 → Nat → Int32 → rf_m → Option (rf_m)} (hr21 : ∀ (a1 : Int32) (a2 : Int32) (a3 : Nat) (a4 : Int32) (m : rf_m), rec21 a1 a2 a3 a4 m = some r → rf_V 6 (rf_sh w) K 0 0 21 ([(0, .ref 55), (1, .int a1), (2, .int a2), (3, .ref a3), (4, .int a4)], [], rf_MM w m)) (a1 : Int32) (a2 : Int32) (a3 : Nat) (a4 : Int32) (m : rf_m) (hg : g_X0_eliminate_124 w rec21 a1 a2 a3 a4 m = some r) : rf_V 6 (rf_sh w) K 0 0 124 ([(0, .ref 55), (1, .int a1), (2, .int a2), (3, .ref a3), (4, .int a4)], [], rf_MM w m) := by
  unfold g_X0_eliminate_124 at hg
  obtain ⟨q0, hg⟩ := rf_g_some hg
  obtain ⟨q1, hg⟩ := rf_g_some hg
  obtain ⟨q2, hg⟩ := rf_g_some hg
  refine rf_seg C [(.iinc 4 1, 3)] (pc' := 127) (S' := ([(4, .int (a4 + 1)), (0, .ref 55), (1, .int a1), (2, .int a2), (3, .ref a3)], [], rf_MM w m)) (by decide +kernel) rfl trivial ?_
  refine rf_goto C (-106) 21 (by decide +kernel) ?_
  refine rf_few [1, 2, 3, 4, 0] rfl ?_
  exact hr21 a1 a2 a3 (a4 + 1) m hg
theorem s_X0_eliminate_44 {w : rf_w} {K : rf_K} {r : rf_m} (C : rf_Ctx 0 cX0_eliminate 6 5 (rf_sh w) K) (hE : rf_End none K (rf_sh w) 0 0 none (rf_MM w r)) {rec21 : Int32 → Int32 → Nat → Int32 → rf_m → Option (rf_m)} (hr21 : ∀ (a1 : Int32) (a2 : Int32) (a3 : Nat) (a4 : Int32) (m : rf_m), rec21 a1 a2 a3 a4 m = some r → rf_V 6 (rf_sh w) K 0 0 21 ([(0, .ref 55), (1, .int a1), (2, .int a2), (3, .ref a3), (4, .int a4)], [], rf_MM w m)) (a1 : Int32) (a2 : Int32) (a3 : Nat) (a4 : Int32) (m : rf_m) (hg : g_X0_eliminate_44 w rec21 a1 a2 a3 a4 m = some r) : rf_V 6 (rf_sh w) K 0 0 44 ([(0, .ref 55), (1, .int a1), (2, .int a2), (3, .ref a3), (4, .int a4)], [], rf_MM w m) := by
  unfold g_X0_eliminate_44 at hg
  obtain ⟨q0, hg⟩ := rf_g_some hg
  obtain ⟨q1, hg⟩ := rf_g_some hg
  obtain ⟨q2, hg⟩ := rf_g_some hg
  refine rf_seg C [(.aload 0, 1), (.invokeinterface 0 9, 3), (.iload 1, 1), (.iconst 7, 2), (.imul, 1), (.iload 4, 2), (.iadd, 1)] (pc' := 55) (S' := ([(0, .ref 55), (1, .int a1), (2, .int a2), (3, .ref a3), (4, .int a4)], [.int ((a1 * 7) + a4), .ref 61], rf_MM w m)) (by decide +kernel) rfl trivial ?_
  obtain ⟨q3, hg⟩ := rf_g_some hg
  obtain ⟨k4, hk4, hg⟩ := rf_o_some hg
  refine rf_d_aaload C (n := 42) (q := k4) rfl (rf_in_of q3) hk4 (by decide +kernel) ?_
  obtain ⟨q5, hg⟩ := rf_g_some hg
  obtain ⟨q6, hg⟩ := rf_g_some hg
  obtain ⟨q7, hg⟩ := rf_g_some hg
  show rf_V 6 (rf_sh w) K 0 0 56 ([(0, .ref 55), (1, .int a1), (2, .int a2), (3, .ref a3), (4, .int a4)], [.ref k4], rf_MM w m)
  refine rf_seg C [(.astore 5, 2), (.aload 0, 1), (.invokeinterface 0 13, 3), (.aload 3, 1), (.aload 5, 2)] (pc' := 65) (S' := ([(5, .ref k4), (0, .ref 55), (1, .int a1), (2, .int a2), (3, .ref a3), (4, .int a4)], [.ref k4, .ref a3, .ref 67], rf_MM w m)) (by decide +kernel) rfl trivial ?_
  obtain ⟨m8, hc8, hg⟩ := rf_bv_some hg
  refine rf_callv C rf_fit0 j_X1_setProduct (ci := 1) (As := [.ref a3, .ref k4]) (rest := []) mw_X1_setProduct (c_X1_setProduct hc8) (by decide) rfl (by decide) lk_0_146 rfl rfl (Nat.le_of_ble_eq_true rfl) (by decide +kernel) ?_
  show rf_V 6 (rf_sh w) K 0 0 68 ([(5, .ref k4), (0, .ref 55), (1, .int a1), (2, .int a2), (3, .ref a3), (4, .int a4)], [], rf_MM w m8)
  refine rf_seg C [(.aload 0, 1), (.invokeinterface 0 14, 3), (.aload 0, 1), (.invokeinterface 0 15, 3), (.aload 0, 1), (.invokeinterface 0 9, 3), (.iload 2, 1), (.iconst 7, 2), (.imul, 1), (.iload 4, 2), (.iadd, 1)] (pc' := 87) (S' := ([(5, .ref k4), (0, .ref 55), (1, .int a1), (2, .int a2), (3, .ref a3), (4, .int a4)], [.int ((a2 * 7) + a4), .ref 61, .ref 71, .ref 69], rf_MM w m8)) (by decide +kernel) rfl trivial ?_
  obtain ⟨q9, hg⟩ := rf_g_some hg
  obtain ⟨k10, hk10, hg⟩ := rf_o_some hg
  refine rf_d_aaload C (n := 42) (q := k10) rfl (rf_in_of q9) hk10 (by decide +kernel) ?_
  obtain ⟨q11, hg⟩ := rf_g_some hg
  obtain ⟨q12, hg⟩ := rf_g_some hg
  obtain ⟨q13, hg⟩ := rf_g_some hg
  show rf_V 6 (rf_sh w) K 0 0 88 ([(5, .ref k4), (0, .ref 55), (1, .int a1), (2, .int a2), (3, .ref a3), (4, .int a4)], [.ref k10, .ref 71, .ref 69], rf_MM w m8)
  obtain ⟨m14, hc14, hg⟩ := rf_bv_some hg
  refine rf_callv C rf_fit0 j_X1_setProduct (ci := 1) (As := [.ref 71, .ref k10]) (rest := []) mw_X1_setProduct (c_X1_setProduct hc14) (by decide) rfl (by decide) lk_0_146 rfl rfl (Nat.le_of_ble_eq_true rfl) (by decide +kernel) ?_
  show rf_V 6 (rf_sh w) K 0 0 91 ([(5, .ref k4), (0, .ref 55), (1, .int a1), (2, .int a2), (3, .ref a3), (4, .int a4)], [], rf_MM w m14)
  refine rf_seg C [(.aload 0, 1), (.invokeinterface 0 13, 3), (.aload 0, 1), (.invokeinterface 0 14, 3), (.iconst 1, 1)] (pc' := 100) (S' := ([(5, .ref k4), (0, .ref 55), (1, .int a1), (2, .int a2), (3, .ref a3), (4, .int a4)], [.int 1, .ref 69, .ref 67], rf_MM w m14)) (by decide +kernel) rfl trivial ?_
  obtain ⟨m15, hc15, hg⟩ := rf_bv_some hg
  refine rf_callv C rf_fit0 j_X1_addSigned (ci := 1) (As := [.ref 69, .int 1]) (rest := []) mw_X1_addSigned (c_X1_addSigned hc15) (by decide) rfl (by decide) lk_0_150 rfl rfl (Nat.le_of_ble_eq_true rfl) (by decide +kernel) ?_
  show rf_V 6 (rf_sh w) K 0 0 103 ([(5, .ref k4), (0, .ref 55), (1, .int a1), (2, .int a2), (3, .ref a3), (4, .int a4)], [], rf_MM w m15)
  refine rf_seg C [(.aload 5, 2), (.aload 0, 1), (.invokeinterface 0 13, 3), (.aload 0, 1), (.invokeinterface 0 12, 3), (.aload 0, 1), (.invokeinterface 0 17, 3), (.aload 0, 1), (.invokeinterface 0 18, 3)] (pc' := 121) (S' := ([(5, .ref k4), (0, .ref 55), (1, .int a1), (2, .int a2), (3, .ref a3), (4, .int a4)], [.ref 77, .ref 75, .ref 65, .ref 67, .ref k4], rf_MM w m15)) (by decide +kernel) rfl trivial ?_
  obtain ⟨m16, hc16, hg⟩ := rf_bv_some hg
  refine rf_callv C rf_fit0 j_X1_setQuotient (ci := 1) (As := [.ref 67, .ref 65, .ref 75, .ref 77]) (rest := []) mw_X1_setQuotient (c_X1_setQuotient hc16) (by decide) (rf_isO_of q5) (by decide) lk_0_154 rfl rfl (Nat.le_of_ble_eq_true rfl) (by decide +kernel) ?_
  show rf_V 6 (rf_sh w) K 0 0 124 ([(5, .ref k4), (0, .ref 55), (1, .int a1), (2, .int a2), (3, .ref a3), (4, .int a4)], [], rf_MM w m16)
  refine rf_few [1, 2, 3, 4, 5] rfl ?_
  exact s_X0_eliminate_124 C hE hr21 a1 a2 a3 a4 m16 hg
theorem s_X0_eliminate_21_b {w : rf_w} {K : rf_K} {r : rf_m} (C : rf_Ctx 0 cX0_eliminate 6 5 (rf_sh w) K) (hE : rf_End none K (rf_sh w) 0 0 none (rf_MM w r)) {rec21 : Int32 → Int32 → Nat → Int32 → rf_m → Option (rf_m)} (hr21 : ∀ (a1 : Int32) (a2 : Int32) (a3 : Nat) (a4 : Int32) (m : rf_m), rec21 a1 a2 a3 a4 m = some r → rf_V 6 (rf_sh w) K 0 0 21 ([(0, .ref 55), (1, .int a1), (2, .int a2), (3, .ref a3), (4, .int a4)], [], rf_MM w m)) (a1 : Int32) (a2 : Int32) (a3 : Nat) (a4 : Int32) (m : rf_m) (hg : g_X0_eliminate_21_b w rec21 a1 a2 a3 a4 m = some r) : rf_V 6 (rf_sh w) K 0 0 21 ([(0, .ref 55), (1, .int a1), (2, .int a2), (3, .ref a3), (4, .int a4)], [], rf_MM w m) := by
  unfold g_X0_eliminate_21_b at hg
  obtain ⟨q0, hg⟩ := rf_g_some hg
  obtain ⟨q1, hg⟩ := rf_g_some hg
  obtain ⟨q2, hg⟩ := rf_g_some hg
  refine rf_seg C [(.iload 4, 2), (.iconst 7, 2)] (pc' := 25) (S' := ([(0, .ref 55), (1, .int a1), (2, .int a2), (3, .ref a3), (4, .int a4)], [.int 7, .int a4], rf_MM w m)) (by decide +kernel) rfl trivial ?_
  refine rf_icmp_ge C 105 130 (by decide +kernel) (fun hc => ?_) (fun hc => ?_)
  · replace hg := (if_pos hc).symm.trans hg
    obtain rfl := Option.some.inj hg
    exact rf_vret C hE (by decide +kernel)
  · replace hg := (if_neg hc).symm.trans hg
    refine rf_seg C [(.iload 4, 2), (.aload 0, 1), (.invokeinterface 0 8, 3)] (pc' := 34) (S' := ([(0, .ref 55), (1, .int a1), (2, .int a2), (3, .ref a3), (4, .int a4)], [.int (m.1 55 8), .int a4], rf_MM w m)) (by decide +kernel) rfl trivial ?_
    refine rf_icmp_lt C 10 44 (by decide +kernel) (fun hc => ?_) (fun hc => ?_)
    · replace hg := (if_pos hc).symm.trans hg
      refine rf_few [0, 1, 2, 3, 4] rfl ?_
      exact s_X0_eliminate_44 C hE hr21 a1 a2 a3 a4 m hg
    · replace hg := (if_neg hc).symm.trans hg
      refine rf_seg C [(.iload 4, 2), (.iconst 6, 2)] (pc' := 41) (S' := ([(0, .ref 55), (1, .int a1), (2, .int a2), (3, .ref a3), (4, .int a4)], [.int 6, .int a4], rf_MM w m)) (by decide +kernel) rfl trivial ?_
      refine rf_icmp_ne C 83 124 (by decide +kernel) (fun hc => ?_) (fun hc => ?_)
      · replace hg := (if_neg hc).symm.trans hg
        refine rf_few [0, 1, 2, 3, 4] rfl ?_
        exact s_X0_eliminate_124 C hE hr21 a1 a2 a3 a4 m hg
      · replace hg := (if_pos hc).symm.trans hg
        refine rf_few [0, 1, 2, 3, 4] rfl ?_
        exact s_X0_eliminate_44 C hE hr21 a1 a2 a3 a4 m hg
theorem s_X0_eliminate_21 {w : rf_w} {K : rf_K} {r : rf_m} (C : rf_Ctx 0 cX0_eliminate 6 5 (rf_sh w) K) (hE : rf_End none K (rf_sh w) 0 0 none (rf_MM w r)) (n : Nat) : ∀ (a1 : Int32) (a2 : Int32) (a3 : Nat) (a4 : Int32) (m : rf_m), g_X0_eliminate_21 w n a1 a2 a3 a4 m = some r → rf_V 6 (rf_sh w) K 0 0 21 ([(0, .ref 55), (1, .int a1), (2, .int a2), (3, .ref a3), (4, .int a4)], [], rf_MM w m) := by
  induction n with
  | zero => intro a1 a2 a3 a4 m hg; cases hg
  | succ n ih => intro a1 a2 a3 a4 m hg; exact s_X0_eliminate_21_b C hE ih a1 a2 a3 a4 m hg
theorem c_X0_eliminate {w : rf_w} {m : rf_m} {a1 : Int32} {a2 : Int32} {a3 : Nat} {r : rf_m} (hg : g_X0_eliminate w m a1 a2 a3 = some r) : rf_Con j_X0_eliminate 5 (rf_sh w) [.ref 55, .int a1, .int a2, .ref a3] (rf_MM w m) none (rf_MM w r) := by
  refine rf_con j_X0_eliminate 5 ⟨by decide +kernel, rfl, Nat.le_of_ble_eq_true rfl⟩ (fun K C hE => ?_)
  unfold g_X0_eliminate at hg
  show rf_V 6 (rf_sh w) K 0 0 0 ([(0, .ref 55), (1, .int a1), (2, .int a2), (3, .ref a3)], [], rf_MM w m)
  obtain ⟨q0, hg⟩ := rf_g_some hg
  obtain ⟨q1, hg⟩ := rf_g_some hg
  obtain ⟨q2, hg⟩ := rf_g_some hg
  refine rf_seg C [(.aload 0, 1), (.invokeinterface 0 15, 3), (.aload 0, 1), (.invokeinterface 0 9, 3), (.iload 1, 1), (.iconst 7, 2), (.imul, 1), (.iload 2, 1), (.iadd, 1)] (pc' := 14) (S' := ([(0, .ref 55), (1, .int a1), (2, .int a2), (3, .ref a3)], [.int ((a1 * 7) + a2), .ref 61, .ref 71], rf_MM w m)) (by decide +kernel) rfl trivial ?_
  obtain ⟨q3, hg⟩ := rf_g_some hg
  obtain ⟨k4, hk4, hg⟩ := rf_o_some hg
  refine rf_d_aaload C (n := 42) (q := k4) rfl (rf_in_of q3) hk4 (by decide +kernel) ?_
  obtain ⟨q5, hg⟩ := rf_g_some hg
  obtain ⟨q6, hg⟩ := rf_g_some hg
  obtain ⟨q7, hg⟩ := rf_g_some hg
  show rf_V 6 (rf_sh w) K 0 0 15 ([(0, .ref 55), (1, .int a1), (2, .int a2), (3, .ref a3)], [.ref k4, .ref 71], rf_MM w m)
  obtain ⟨m8, hc8, hg⟩ := rf_bv_some hg
  refine rf_callv C rf_fit0 j_X1_copyFrom (ci := 1) (As := [.ref k4]) (rest := []) mw_X1_copyFrom (c_X1_copyFrom hc8) (by decide) rfl (by decide) lk_0_142 rfl rfl (Nat.le_of_ble_eq_true rfl) (by decide +kernel) ?_
  show rf_V 6 (rf_sh w) K 0 0 18 ([(0, .ref 55), (1, .int a1), (2, .int a2), (3, .ref a3)], [], rf_MM w m8)
  refine rf_seg C [(.iconst 0, 1), (.istore 4, 2)] (pc' := 21) (S' := ([(4, .int 0), (0, .ref 55), (1, .int a1), (2, .int a2), (3, .ref a3)], [], rf_MM w m8)) (by decide +kernel) rfl trivial ?_
  refine rf_few [1, 2, 3, 4, 0] rfl ?_
  exact s_X0_eliminate_21 C hE rf_fuel a1 a2 a3 0 m8 hg
