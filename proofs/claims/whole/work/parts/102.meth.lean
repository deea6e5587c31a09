/-! methods as functions, and their contracts (written by wip/tool/gen.py) -/
-- X3_sign
abbrev j_X3_sign : rf_J := (3, yX3_sign, cX3_sign, 5, none)
theorem mw_X3_sign : rf_mv j_X3_sign (rf_R 3) 4 := ⟨⟨rf_mem 24 (by decide +kernel), rf_mem 24 (by decide +kernel), rf_mem 0 (by decide +kernel), rf_mem 24 (by decide +kernel)⟩, by decide +kernel, by decide⟩
def g_X3_sign (w : rf_w) (m : rf_m) (a1 : Int32) (a2 : Int32) (a3 : Int32) (a4 : Int32) : Option (rf_m) := rf_g (rf_in ((a1 * 9) + 2) 10800) (rf_g (rf_in ((a1 * 9) + 3) 10800) (rf_g (rf_in ((a1 * 9) + 4) 10800) (some (rf_i (rf_i (rf_i m 32 (Int32.toNatClampNeg ((a1 * 9) + 2)) a2) 32 (Int32.toNatClampNeg ((a1 * 9) + 3)) a3) 32 (Int32.toNatClampNeg ((a1 * 9) + 4)) a4))))
theorem c_X3_sign {w : rf_w} {m : rf_m} {a1 : Int32} {a2 : Int32} {a3 : Int32} {a4 : Int32} {r : rf_m} (hg : g_X3_sign w m a1 a2 a3 a4 = some r) : rf_Con j_X3_sign 1 (rf_sh w) [.ref 26, .int a1, .int a2, .int a3, .int a4] (rf_MM w m) none (rf_MM w r) := by
  refine rf_con j_X3_sign 1 ⟨by decide +kernel, rfl, Nat.le_of_ble_eq_true rfl⟩ (fun K C hE => ?_)
  unfold g_X3_sign at hg
  show rf_V 5 (rf_sh w) K 0 0 0 ([(0, .ref 26), (1, .int a1), (2, .int a2), (3, .int a3), (4, .int a4)], [], rf_MM w m)
  obtain ⟨q0, hg⟩ := rf_g_some hg
  obtain ⟨q1, hg⟩ := rf_g_some hg
  obtain ⟨q2, hg⟩ := rf_g_some hg
  refine rf_seg C [(.aload 0, 1), (.invokeinterface 3 9, 3), (.iload 1, 1), (.iconst 9, 2), (.imul, 1), (.iconst 2, 1), (.iadd, 1), (.iload 2, 1), (.iastore, 1), (.aload 0, 1), (.invokeinterface 3 9, 3), (.iload 1, 1), (.iconst 9, 2), (.imul, 1), (.iconst 3, 1), (.iadd, 1), (.iload 3, 1), (.iastore, 1), (.aload 0, 1), (.invokeinterface 3 9, 3), (.iload 1, 1), (.iconst 9, 2), (.imul, 1), (.iconst 4, 1), (.iadd, 1), (.iload 4, 2), (.iastore, 1)] (pc' := 37) (S' := ([(0, .ref 26), (1, .int a1), (2, .int a2), (3, .int a3), (4, .int a4)], [], rf_MM w (rf_i (rf_i (rf_i m 32 (Int32.toNatClampNeg ((a1 * 9) + 2)) a2) 32 (Int32.toNatClampNeg ((a1 * 9) + 3)) a3) 32 (Int32.toNatClampNeg ((a1 * 9) + 4)) a4))) (by decide +kernel) rfl (by exact ⟨(rf_in_of q0), (rf_in_of q1), (rf_in_of q2)⟩) ?_
  obtain rfl := Option.some.inj hg
  exact rf_vret C hE (by decide +kernel)
-- X3_isSeen
abbrev j_X3_isSeen : rf_J := (3, yX3_isSeen, cX3_isSeen, 2, (some .boolean))
theorem mw_X3_isSeen : rf_mv j_X3_isSeen (rf_R 3) 1 := ⟨⟨rf_mem 26 (by decide +kernel), rf_mem 26 (by decide +kernel), rf_mem 0 (by decide +kernel), rf_mem 26 (by decide +kernel)⟩, by decide +kernel, by decide⟩
def g_X3_isSeen (w : rf_w) (m : rf_m) (a1 : Int32) : Option (Int32 × rf_m) := rf_b (g_X3_factOf w m a1 1) fun y0 m0 => (if y0 = ((-2)) then some (0, m0) else some (1, m0))
theorem c_X3_isSeen {w : rf_w} {m : rf_m} {a1 : Int32} {r : Int32 × rf_m} (hg : g_X3_isSeen w m a1 = some r) : rf_Con j_X3_isSeen 2 (rf_sh w) [.ref 26, .int a1] (rf_MM w m) (some (.int r.1)) (rf_MM w r.2) := by
  refine rf_con j_X3_isSeen 2 ⟨by decide +kernel, rfl, Nat.le_of_ble_eq_true rfl⟩ (fun K C hE => ?_)
  unfold g_X3_isSeen at hg
  show rf_V 2 (rf_sh w) K 0 0 0 ([(0, .ref 26), (1, .int a1)], [], rf_MM w m)
  refine rf_seg C [(.aload 0, 1), (.iload 1, 1), (.iconst 1, 1)] (pc' := 3) (S' := ([(0, .ref 26), (1, .int a1)], [.int 1, .int a1, .ref 26], rf_MM w m)) (by decide +kernel) rfl trivial ?_
  obtain ⟨y0, m0, hc0, hg⟩ := rf_b_some hg
  refine rf_callv C rf_fit0 j_X3_factOf (ci := 3) (As := [.int a1, .int 1]) (rest := []) mw_X3_factOf (c_X3_factOf hc0) (by decide) rfl (by decide) lk_3_73 rfl rfl (Nat.le_of_ble_eq_true rfl) (by decide +kernel) ?_
  show rf_V 2 (rf_sh w) K 0 0 6 ([(0, .ref 26), (1, .int a1)], [.int y0], rf_MM w m0)
  refine rf_seg C [(.iconst (-2), 2)] (pc' := 8) (S' := ([(0, .ref 26), (1, .int a1)], [.int ((-2)), .int y0], rf_MM w m0)) (by decide +kernel) rfl trivial ?_
  refine rf_icmp_eq C 7 15 (by decide +kernel) (fun hc => ?_) (fun hc => ?_)
  · replace hg := (if_pos hc).symm.trans hg
    refine rf_seg C [(.iconst 0, 1)] (pc' := 16) (S' := ([(0, .ref 26), (1, .int a1)], [.int 0], rf_MM w m0)) (by decide +kernel) rfl trivial ?_
    obtain rfl := Option.some.inj hg
    exact rf_zret C hE (by decide) (by decide +kernel)
  · replace hg := (if_neg hc).symm.trans hg
    refine rf_seg C [(.iconst 1, 1)] (pc' := 12) (S' := ([(0, .ref 26), (1, .int a1)], [.int 1], rf_MM w m0)) (by decide +kernel) rfl trivial ?_
    refine rf_goto C 4 16 (by decide +kernel) ?_
    obtain rfl := Option.some.inj hg
    exact rf_zret C hE (by decide) (by decide +kernel)
-- X3_isStruck
abbrev j_X3_isStruck : rf_J := (3, yX3_isStruck, cX3_isStruck, 5, (some .boolean))
theorem mw_X3_isStruck : rf_mv j_X3_isStruck (rf_R 3) 2 := ⟨⟨rf_mem 27 (by decide +kernel), rf_mem 27 (by decide +kernel), rf_mem 0 (by decide +kernel), rf_mem 27 (by decide +kernel)⟩, by decide +kernel, by decide⟩
def g_X3_isStruck_10_b (w : rf_w) (rec10 : Int32 → Int32 → Int32 → rf_m → Option (Int32 × rf_m)) (a2 : Int32) (a3 : Int32) (a4 : Int32) (m : rf_m) : Option (Int32 × rf_m) := (if 512 ≤ a4 then some (0, m) else (if a3 = ((-1)) then some (0, m) else rf_g (rf_in a3 512) ((if a2 < (m.1 37 (Int32.toNatClampNeg a3)) then rf_g (rf_in a3 512) (rf_vi (m.1 38 (Int32.toNatClampNeg a3)) fun x2 => rec10 a2 x2 (a4 + 1) m) else rf_g (rf_in a3 512) (rf_g (rf_01 (m.1 39 (Int32.toNatClampNeg a3))) (some (m.1 39 (Int32.toNatClampNeg a3), m)))))))
def g_X3_isStruck_10 (w : rf_w) : Nat → Int32 → Int32 → Int32 → rf_m → Option (Int32 × rf_m)
  | 0, _, _, _, _ => none
  | n + 1, a2, a3, a4, m => g_X3_isStruck_10_b w (g_X3_isStruck_10 w n) a2 a3 a4 m
def g_X3_isStruck (w : rf_w) (m : rf_m) (a1 : Int32) (a2 : Int32) : Option (Int32 × rf_m) := rf_g (rf_in a1 1200) (rf_vi (m.1 36 (Int32.toNatClampNeg a1)) fun x1 => g_X3_isStruck_10 w rf_fuel a2 x1 0 m)
theorem s_X3_isStruck_10_b {w : rf_w} {K : rf_K} {r : Int32 × rf_m} (C : rf_Ctx 3 cX3_isStruck 5 1 (rf_sh w) K) (hE : rf_End (some .boolean) K (rf_sh w) 0 0 (some (.int r.1)) (rf_MM w r.2)) {rec10 : Int32 → Int32 → Int32 → rf_m → Option (Int32 × rf_m)} (hr10 : ∀ (a2 : Int32) (a3 : Int32) (a4 : Int32) (m : rf_m), rec10 a2 a3 a4 m = some r → rf_V 5 (rf_sh w) K 0 0 10 ([(0, .ref 26), (2, .int a2), (3, .int a3), (4, .int a4)], [], rf_MM w m)) (a2 : Int32) (a3 : Int32) (a4 : Int32) (m : rf_m) (hg : g_X3_isStruck_10_b w rec10 a2 a3 a4 m = some r) : rf_V 5 (rf_sh w) K 0 0 10 ([(0, .ref 26), (2, .int a2), (3, .int a3), (4, .int a4)], [], rf_MM w m) := by
  unfold g_X3_isStruck_10_b at hg
  refine rf_seg C [(.iload 4, 2), (.iconst 512, 3)] (pc' := 15) (S' := ([(0, .ref 26), (2, .int a2), (3, .int a3), (4, .int a4)], [.int 512, .int a4], rf_MM w m)) (by decide +kernel) rfl trivial ?_
  refine rf_icmp_ge C 38 53 (by decide +kernel) (fun hc => ?_) (fun hc => ?_)
  · replace hg := (if_pos hc).symm.trans hg
    refine rf_seg C [(.iconst 0, 1)] (pc' := 54) (S' := ([(0, .ref 26), (2, .int a2), (3, .int a3), (4, .int a4)], [.int 0], rf_MM w m)) (by decide +kernel) rfl trivial ?_
    obtain rfl := Option.some.inj hg
    exact rf_zret C hE (by decide) (by decide +kernel)
  · replace hg := (if_neg hc).symm.trans hg
    refine rf_seg C [(.iload 3, 1), (.iconst (-1), 1)] (pc' := 20) (S' := ([(0, .ref 26), (2, .int a2), (3, .int a3), (4, .int a4)], [.int ((-1)), .int a3], rf_MM w m)) (by decide +kernel) rfl trivial ?_
    refine rf_icmp_eq C 33 53 (by decide +kernel) (fun hc => ?_) (fun hc => ?_)
    · replace hg := (if_pos hc).symm.trans hg
      refine rf_seg C [(.iconst 0, 1)] (pc' := 54) (S' := ([(0, .ref 26), (2, .int a2), (3, .int a3), (4, .int a4)], [.int 0], rf_MM w m)) (by decide +kernel) rfl trivial ?_
      obtain rfl := Option.some.inj hg
      exact rf_zret C hE (by decide) (by decide +kernel)
    · replace hg := (if_neg hc).symm.trans hg
      obtain ⟨q0, hg⟩ := rf_g_some hg
      refine rf_seg C [(.aload 0, 1), (.invokeinterface 3 14, 3), (.iload 3, 1), (.iaload, 1), (.iload 2, 1)] (pc' := 30) (S' := ([(0, .ref 26), (2, .int a2), (3, .int a3), (4, .int a4)], [.int a2, .int (m.1 37 (Int32.toNatClampNeg a3))], rf_MM w m)) (by decide +kernel) rfl (rf_in_of q0) ?_
      refine rf_icmp_gt C 10 40 (by decide +kernel) (fun hc => ?_) (fun hc => ?_)
      · replace hg := (if_pos hc).symm.trans hg
        obtain ⟨q1, hg⟩ := rf_g_some hg
        refine rf_seg C [(.aload 0, 1), (.invokeinterface 3 15, 3), (.iload 3, 1), (.iaload, 1)] (pc' := 46) (S' := ([(0, .ref 26), (2, .int a2), (3, .int a3), (4, .int a4)], [.int (m.1 38 (Int32.toNatClampNeg a3))], rf_MM w m)) (by decide +kernel) rfl (rf_in_of q1) ?_
        obtain ⟨x2, hx2, hg⟩ := rf_vi_some hg
        refine rf_vi_top hx2 ?_
        refine rf_seg C [(.istore 3, 1), (.iinc 4 1, 3)] (pc' := 50) (S' := ([(4, .int (a4 + 1)), (3, .int x2), (0, .ref 26), (2, .int a2)], [], rf_MM w m)) (by decide +kernel) rfl trivial ?_
        refine rf_goto C (-40) 10 (by decide +kernel) ?_
        refine rf_few [2, 3, 1, 0] rfl ?_
        exact hr10 a2 x2 (a4 + 1) m hg
      · replace hg := (if_neg hc).symm.trans hg
        obtain ⟨q3, hg⟩ := rf_g_some hg
        refine rf_seg C [(.aload 0, 1), (.invokeinterface 3 16, 3), (.iload 3, 1), (.baload, 1)] (pc' := 39) (S' := ([(0, .ref 26), (2, .int a2), (3, .int a3), (4, .int a4)], [.int (m.1 39 (Int32.toNatClampNeg a3))], rf_MM w m)) (by decide +kernel) rfl (rf_in_of q3) ?_
        obtain ⟨q01, hg⟩ := rf_g_some hg
        obtain rfl := Option.some.inj hg
        exact rf_zret C hE (rf_01_of q01) (by decide +kernel)
theorem s_X3_isStruck_10 {w : rf_w} {K : rf_K} {r : Int32 × rf_m} (C : rf_Ctx 3 cX3_isStruck 5 1 (rf_sh w) K) (hE : rf_End (some .boolean) K (rf_sh w) 0 0 (some (.int r.1)) (rf_MM w r.2)) (n : Nat) : ∀ (a2 : Int32) (a3 : Int32) (a4 : Int32) (m : rf_m), g_X3_isStruck_10 w n a2 a3 a4 m = some r → rf_V 5 (rf_sh w) K 0 0 10 ([(0, .ref 26), (2, .int a2), (3, .int a3), (4, .int a4)], [], rf_MM w m) := by
  induction n with
  | zero => intro a2 a3 a4 m hg; cases hg
  | succ n ih => intro a2 a3 a4 m hg; exact s_X3_isStruck_10_b C hE ih a2 a3 a4 m hg
theorem c_X3_isStruck {w : rf_w} {m : rf_m} {a1 : Int32} {a2 : Int32} {r : Int32 × rf_m} (hg : g_X3_isStruck w m a1 a2 = some r) : rf_Con j_X3_isStruck 1 (rf_sh w) [.ref 26, .int a1, .int a2] (rf_MM w m) (some (.int r.1)) (rf_MM w r.2) := by
  refine rf_con j_X3_isStruck 1 ⟨by decide +kernel, rfl, Nat.le_of_ble_eq_true rfl⟩ (fun K C hE => ?_)
  unfold g_X3_isStruck at hg
  show rf_V 5 (rf_sh w) K 0 0 0 ([(0, .ref 26), (1, .int a1), (2, .int a2)], [], rf_MM w m)
  obtain ⟨q0, hg⟩ := rf_g_some hg
  refine rf_seg C [(.aload 0, 1), (.invokeinterface 3 13, 3), (.iload 1, 1), (.iaload, 1)] (pc' := 6) (S' := ([(0, .ref 26), (1, .int a1), (2, .int a2)], [.int (m.1 36 (Int32.toNatClampNeg a1))], rf_MM w m)) (by decide +kernel) rfl (rf_in_of q0) ?_
  obtain ⟨x1, hx1, hg⟩ := rf_vi_some hg
  refine rf_vi_top hx1 ?_
  refine rf_seg C [(.istore 3, 1), (.iconst 0, 1), (.istore 4, 2)] (pc' := 10) (S' := ([(4, .int 0), (3, .int x1), (0, .ref 26), (1, .int a1), (2, .int a2)], [], rf_MM w m)) (by decide +kernel) rfl trivial ?_
  refine rf_few [2, 4, 1, 0] rfl ?_
  exact s_X3_isStruck_10 C hE rf_fuel a2 x1 0 m hg
-- X3_addStrike
abbrev j_X3_addStrike : rf_J := (3, yX3_addStrike, cX3_addStrike, 4, (some .boolean))
theorem mw_X3_addStrike : rf_mv j_X3_addStrike (rf_R 3) 3 := ⟨⟨rf_mem 30 (by decide +kernel), rf_mem 31 (by decide +kernel), rf_mem 0 (by decide +kernel), rf_mem 31 (by decide +kernel)⟩, by decide +kernel, by decide⟩
def g_X3_addStrike (w : rf_w) (m : rf_m) (a1 : Int32) (a2 : Int32) (a3 : Int32) : Option (Int32 × rf_m) := (if (m.1 26 17) < 512 then rf_g (rf_in (m.1 26 17) 512) (rf_g (rf_in ((rf_i m 37 (Int32.toNatClampNeg (m.1 26 17)) a2).1 26 17) 512) (rf_g (rf_in a1 1200) (rf_g (rf_in ((rf_i (rf_i m 37 (Int32.toNatClampNeg (m.1 26 17)) a2) 39 (Int32.toNatClampNeg ((rf_i m 37 (Int32.toNatClampNeg (m.1 26 17)) a2).1 26 17)) (vp_nar .boolean a3)).1 26 17) 512) (rf_g (rf_in a1 1200) (rf_b (g_X3_factOf w (rf_i (rf_i (rf_i (rf_i (rf_i m 37 (Int32.toNatClampNeg (m.1 26 17)) a2) 39 (Int32.toNatClampNeg ((rf_i m 37 (Int32.toNatClampNeg (m.1 26 17)) a2).1 26 17)) (vp_nar .boolean a3)) 38 (Int32.toNatClampNeg ((rf_i (rf_i m 37 (Int32.toNatClampNeg (m.1 26 17)) a2) 39 (Int32.toNatClampNeg ((rf_i m 37 (Int32.toNatClampNeg (m.1 26 17)) a2).1 26 17)) (vp_nar .boolean a3)).1 26 17)) ((rf_i (rf_i m 37 (Int32.toNatClampNeg (m.1 26 17)) a2) 39 (Int32.toNatClampNeg ((rf_i m 37 (Int32.toNatClampNeg (m.1 26 17)) a2).1 26 17)) (vp_nar .boolean a3)).1 36 (Int32.toNatClampNeg a1))) 36 (Int32.toNatClampNeg a1) ((rf_i (rf_i (rf_i m 37 (Int32.toNatClampNeg (m.1 26 17)) a2) 39 (Int32.toNatClampNeg ((rf_i m 37 (Int32.toNatClampNeg (m.1 26 17)) a2).1 26 17)) (vp_nar .boolean a3)) 38 (Int32.toNatClampNeg ((rf_i (rf_i m 37 (Int32.toNatClampNeg (m.1 26 17)) a2) 39 (Int32.toNatClampNeg ((rf_i m 37 (Int32.toNatClampNeg (m.1 26 17)) a2).1 26 17)) (vp_nar .boolean a3)).1 26 17)) ((rf_i (rf_i m 37 (Int32.toNatClampNeg (m.1 26 17)) a2) 39 (Int32.toNatClampNeg ((rf_i m 37 (Int32.toNatClampNeg (m.1 26 17)) a2).1 26 17)) (vp_nar .boolean a3)).1 36 (Int32.toNatClampNeg a1))).1 26 17)) 26 17 (((rf_i (rf_i (rf_i (rf_i m 37 (Int32.toNatClampNeg (m.1 26 17)) a2) 39 (Int32.toNatClampNeg ((rf_i m 37 (Int32.toNatClampNeg (m.1 26 17)) a2).1 26 17)) (vp_nar .boolean a3)) 38 (Int32.toNatClampNeg ((rf_i (rf_i m 37 (Int32.toNatClampNeg (m.1 26 17)) a2) 39 (Int32.toNatClampNeg ((rf_i m 37 (Int32.toNatClampNeg (m.1 26 17)) a2).1 26 17)) (vp_nar .boolean a3)).1 26 17)) ((rf_i (rf_i m 37 (Int32.toNatClampNeg (m.1 26 17)) a2) 39 (Int32.toNatClampNeg ((rf_i m 37 (Int32.toNatClampNeg (m.1 26 17)) a2).1 26 17)) (vp_nar .boolean a3)).1 36 (Int32.toNatClampNeg a1))) 36 (Int32.toNatClampNeg a1) ((rf_i (rf_i (rf_i m 37 (Int32.toNatClampNeg (m.1 26 17)) a2) 39 (Int32.toNatClampNeg ((rf_i m 37 (Int32.toNatClampNeg (m.1 26 17)) a2).1 26 17)) (vp_nar .boolean a3)) 38 (Int32.toNatClampNeg ((rf_i (rf_i m 37 (Int32.toNatClampNeg (m.1 26 17)) a2) 39 (Int32.toNatClampNeg ((rf_i m 37 (Int32.toNatClampNeg (m.1 26 17)) a2).1 26 17)) (vp_nar .boolean a3)).1 26 17)) ((rf_i (rf_i m 37 (Int32.toNatClampNeg (m.1 26 17)) a2) 39 (Int32.toNatClampNeg ((rf_i m 37 (Int32.toNatClampNeg (m.1 26 17)) a2).1 26 17)) (vp_nar .boolean a3)).1 36 (Int32.toNatClampNeg a1))).1 26 17)).1 26 17) + 1)) a1 0) fun y5 m5 => rf_bv (g_X3_forget w m5 y5) fun m6 => some (1, m6)))))) else some (0, m))
theorem c_X3_addStrike {w : rf_w} {m : rf_m} {a1 : Int32} {a2 : Int32} {a3 : Int32} {r : Int32 × rf_m} (hg : g_X3_addStrike w m a1 a2 a3 = some r) : rf_Con j_X3_addStrike 2 (rf_sh w) [.ref 26, .int a1, .int a2, .int a3] (rf_MM w m) (some (.int r.1)) (rf_MM w r.2) := by
  refine rf_con j_X3_addStrike 2 ⟨by decide +kernel, rfl, Nat.le_of_ble_eq_true rfl⟩ (fun K C hE => ?_)
  unfold g_X3_addStrike at hg
  show rf_V 4 (rf_sh w) K 0 0 0 ([(0, .ref 26), (1, .int a1), (2, .int a2), (3, .int a3)], [], rf_MM w m)
  refine rf_seg C [(.aload 0, 1), (.invokeinterface 3 17, 3), (.iconst 512, 3)] (pc' := 7) (S' := ([(0, .ref 26), (1, .int a1), (2, .int a2), (3, .int a3)], [.int 512, .int (m.1 26 17)], rf_MM w m)) (by decide +kernel) rfl trivial ?_
  refine rf_icmp_lt C 5 12 (by decide +kernel) (fun hc => ?_) (fun hc => ?_)
  · replace hg := (if_pos hc).symm.trans hg
    obtain ⟨q0, hg⟩ := rf_g_some hg
    obtain ⟨q1, hg⟩ := rf_g_some hg
    obtain ⟨q2, hg⟩ := rf_g_some hg
    obtain ⟨q3, hg⟩ := rf_g_some hg
    obtain ⟨q4, hg⟩ := rf_g_some hg
    refine rf_seg C [(.aload 0, 1), (.invokeinterface 3 14, 3), (.aload 0, 1), (.invokeinterface 3 17, 3), (.iload 2, 1), (.iastore, 1), (.aload 0, 1), (.invokeinterface 3 16, 3), (.aload 0, 1), (.invokeinterface 3 17, 3), (.iload 3, 1), (.bastore, 1), (.aload 0, 1), (.invokeinterface 3 15, 3), (.aload 0, 1), (.invokeinterface 3 17, 3), (.aload 0, 1), (.invokeinterface 3 13, 3), (.iload 1, 1), (.iaload, 1), (.iastore, 1), (.aload 0, 1), (.invokeinterface 3 13, 3), (.iload 1, 1), (.aload 0, 1), (.invokeinterface 3 17, 3), (.iastore, 1), (.aload 0, 1), (.dup, 1), (.invokeinterface 3 17, 3), (.iconst 1, 1), (.iadd, 1), (.multianewarray 3 17, 3), (.aload 0, 1), (.aload 0, 1), (.iload 1, 1), (.iconst 0, 1)] (pc' := 71) (S' := ([(0, .ref 26), (1, .int a1), (2, .int a2), (3, .int a3)], [.int 0, .int a1, .ref 26, .ref 26], rf_MM w (rf_i (rf_i (rf_i (rf_i (rf_i m 37 (Int32.toNatClampNeg (m.1 26 17)) a2) 39 (Int32.toNatClampNeg ((rf_i m 37 (Int32.toNatClampNeg (m.1 26 17)) a2).1 26 17)) (vp_nar .boolean a3)) 38 (Int32.toNatClampNeg ((rf_i (rf_i m 37 (Int32.toNatClampNeg (m.1 26 17)) a2) 39 (Int32.toNatClampNeg ((rf_i m 37 (Int32.toNatClampNeg (m.1 26 17)) a2).1 26 17)) (vp_nar .boolean a3)).1 26 17)) ((rf_i (rf_i m 37 (Int32.toNatClampNeg (m.1 26 17)) a2) 39 (Int32.toNatClampNeg ((rf_i m 37 (Int32.toNatClampNeg (m.1 26 17)) a2).1 26 17)) (vp_nar .boolean a3)).1 36 (Int32.toNatClampNeg a1))) 36 (Int32.toNatClampNeg a1) ((rf_i (rf_i (rf_i m 37 (Int32.toNatClampNeg (m.1 26 17)) a2) 39 (Int32.toNatClampNeg ((rf_i m 37 (Int32.toNatClampNeg (m.1 26 17)) a2).1 26 17)) (vp_nar .boolean a3)) 38 (Int32.toNatClampNeg ((rf_i (rf_i m 37 (Int32.toNatClampNeg (m.1 26 17)) a2) 39 (Int32.toNatClampNeg ((rf_i m 37 (Int32.toNatClampNeg (m.1 26 17)) a2).1 26 17)) (vp_nar .boolean a3)).1 26 17)) ((rf_i (rf_i m 37 (Int32.toNatClampNeg (m.1 26 17)) a2) 39 (Int32.toNatClampNeg ((rf_i m 37 (Int32.toNatClampNeg (m.1 26 17)) a2).1 26 17)) (vp_nar .boolean a3)).1 36 (Int32.toNatClampNeg a1))).1 26 17)) 26 17 (((rf_i (rf_i (rf_i (rf_i m 37 (Int32.toNatClampNeg (m.1 26 17)) a2) 39 (Int32.toNatClampNeg ((rf_i m 37 (Int32.toNatClampNeg (m.1 26 17)) a2).1 26 17)) (vp_nar .boolean a3)) 38 (Int32.toNatClampNeg ((rf_i (rf_i m 37 (Int32.toNatClampNeg (m.1 26 17)) a2) 39 (Int32.toNatClampNeg ((rf_i m 37 (Int32.toNatClampNeg (m.1 26 17)) a2).1 26 17)) (vp_nar .boolean a3)).1 26 17)) ((rf_i (rf_i m 37 (Int32.toNatClampNeg (m.1 26 17)) a2) 39 (Int32.toNatClampNeg ((rf_i m 37 (Int32.toNatClampNeg (m.1 26 17)) a2).1 26 17)) (vp_nar .boolean a3)).1 36 (Int32.toNatClampNeg a1))) 36 (Int32.toNatClampNeg a1) ((rf_i (rf_i (rf_i m 37 (Int32.toNatClampNeg (m.1 26 17)) a2) 39 (Int32.toNatClampNeg ((rf_i m 37 (Int32.toNatClampNeg (m.1 26 17)) a2).1 26 17)) (vp_nar .boolean a3)) 38 (Int32.toNatClampNeg ((rf_i (rf_i m 37 (Int32.toNatClampNeg (m.1 26 17)) a2) 39 (Int32.toNatClampNeg ((rf_i m 37 (Int32.toNatClampNeg (m.1 26 17)) a2).1 26 17)) (vp_nar .boolean a3)).1 26 17)) ((rf_i (rf_i m 37 (Int32.toNatClampNeg (m.1 26 17)) a2) 39 (Int32.toNatClampNeg ((rf_i m 37 (Int32.toNatClampNeg (m.1 26 17)) a2).1 26 17)) (vp_nar .boolean a3)).1 36 (Int32.toNatClampNeg a1))).1 26 17)).1 26 17) + 1)))) (by decide +kernel) rfl (by exact ⟨(rf_in_of q0), (rf_in_of q1), (rf_in_of q2), (rf_in_of q3), (rf_in_of q4)⟩) ?_
    obtain ⟨y5, m5, hc5, hg⟩ := rf_b_some hg
    refine rf_callv C rf_fit0 j_X3_factOf (ci := 3) (As := [.int a1, .int 0]) (rest := [.ref 26]) mw_X3_factOf (c_X3_factOf hc5) (by decide) rfl (by decide) lk_3_73 rfl rfl (Nat.le_of_ble_eq_true rfl) (by decide +kernel) ?_
    show rf_V 4 (rf_sh w) K 0 0 74 ([(0, .ref 26), (1, .int a1), (2, .int a2), (3, .int a3)], [.int y5, .ref 26], rf_MM w m5)
    obtain ⟨m6, hc6, hg⟩ := rf_bv_some hg
    refine rf_callv C rf_fit0 j_X3_forget (ci := 3) (As := [.int y5]) (rest := []) mw_X3_forget (c_X3_forget hc6) (by decide) rfl (by decide) lk_3_69 rfl rfl (Nat.le_of_ble_eq_true rfl) (by decide +kernel) ?_
    show rf_V 4 (rf_sh w) K 0 0 77 ([(0, .ref 26), (1, .int a1), (2, .int a2), (3, .int a3)], [], rf_MM w m6)
    refine rf_seg C [(.iconst 1, 1)] (pc' := 78) (S' := ([(0, .ref 26), (1, .int a1), (2, .int a2), (3, .int a3)], [.int 1], rf_MM w m6)) (by decide +kernel) rfl trivial ?_
    obtain rfl := Option.some.inj hg
    exact rf_zret C hE (by decide) (by decide +kernel)
  · replace hg := (if_neg hc).symm.trans hg
    refine rf_seg C [(.iconst 0, 1)] (pc' := 11) (S' := ([(0, .ref 26), (1, .int a1), (2, .int a2), (3, .int a3)], [.int 0], rf_MM w m)) (by decide +kernel) rfl trivial ?_
    obtain rfl := Option.some.inj hg
    exact rf_zret C hE (by decide) (by decide +kernel)
-- X3_forgetAll
abbrev j_X3_forgetAll : rf_J := (3, yX3_forgetAll, cX3_forgetAll, 2, none)
theorem mw_X3_forgetAll : rf_mv j_X3_forgetAll (rf_R 3) 0 := ⟨⟨rf_mem 46 (by decide +kernel), rf_mem 46 (by decide +kernel), rf_mem 0 (by decide +kernel), rf_mem 46 (by decide +kernel)⟩, by decide +kernel, by decide⟩
def g_X3_forgetAll_2_b (w : rf_w) (rec2 : Int32 → rf_m → Option (rf_m)) (a1 : Int32) (m : rf_m) : Option (rf_m) := (if (m.1 26 6) ≤ a1 then some m else rf_bv (g_X3_forget w m a1) fun m0 => rec2 (a1 + 1) m0)
def g_X3_forgetAll_2 (w : rf_w) : Nat → Int32 → rf_m → Option (rf_m)
  | 0, _, _ => none
  | n + 1, a1, m => g_X3_forgetAll_2_b w (g_X3_forgetAll_2 w n) a1 m
def g_X3_forgetAll (w : rf_w) (m : rf_m) : Option (rf_m) := g_X3_forgetAll_2 w rf_fuel 0 m
theorem s_X3_forgetAll_2_b {w : rf_w} {K : rf_K} {r : rf_m} (C : rf_Ctx 3 cX3_forgetAll 2 2 (rf_sh w) K) (hE : rf_End none K (rf_sh w) 0 0 none (rf_MM w r)) {rec2 : Int32 → rf_m → Option (rf_m)} (hr2 : ∀ (a1 : Int32) (m : rf_m), rec2 a1 m = some r → rf_V 2 (rf_sh w) K 0 0 2 ([(0, .ref 26), (1, .int a1)], [], rf_MM w m)) (a1 : Int32) (m : rf_m) (hg : g_X3_forgetAll_2_b w rec2 a1 m = some r) : rf_V 2 (rf_sh w) K 0 0 2 ([(0, .ref 26), (1, .int a1)], [], rf_MM w m) := by
  unfold g_X3_forgetAll_2_b at hg
  refine rf_seg C [(.iload 1, 1), (.aload 0, 1), (.invokeinterface 3 6, 3)] (pc' := 7) (S' := ([(0, .ref 26), (1, .int a1)], [.int (m.1 26 6), .int a1], rf_MM w m)) (by decide +kernel) rfl trivial ?_
  refine rf_icmp_ge C 14 21 (by decide +kernel) (fun hc => ?_) (fun hc => ?_)
  · replace hg := (if_pos hc).symm.trans hg
    obtain rfl := Option.some.inj hg
    exact rf_vret C hE (by decide +kernel)
  · replace hg := (if_neg hc).symm.trans hg
    refine rf_seg C [(.aload 0, 1), (.iload 1, 1)] (pc' := 12) (S' := ([(0, .ref 26), (1, .int a1)], [.int a1, .ref 26], rf_MM w m)) (by decide +kernel) rfl trivial ?_
    obtain ⟨m0, hc0, hg⟩ := rf_bv_some hg
    refine rf_callv C rf_fit0 j_X3_forget (ci := 3) (As := [.int a1]) (rest := []) mw_X3_forget (c_X3_forget hc0) (by decide) rfl (by decide) lk_3_69 rfl rfl (Nat.le_of_ble_eq_true rfl) (by decide +kernel) ?_
    show rf_V 2 (rf_sh w) K 0 0 15 ([(0, .ref 26), (1, .int a1)], [], rf_MM w m0)
    refine rf_seg C [(.iinc 1 1, 3)] (pc' := 18) (S' := ([(1, .int (a1 + 1)), (0, .ref 26)], [], rf_MM w m0)) (by decide +kernel) rfl trivial ?_
    refine rf_goto C (-16) 2 (by decide +kernel) ?_
    refine rf_few [1, 0] rfl ?_
    exact hr2 (a1 + 1) m0 hg
theorem s_X3_forgetAll_2 {w : rf_w} {K : rf_K} {r : rf_m} (C : rf_Ctx 3 cX3_forgetAll 2 2 (rf_sh w) K) (hE : rf_End none K (rf_sh w) 0 0 none (rf_MM w r)) (n : Nat) : ∀ (a1 : Int32) (m : rf_m), g_X3_forgetAll_2 w n a1 m = some r → rf_V 2 (rf_sh w) K 0 0 2 ([(0, .ref 26), (1, .int a1)], [], rf_MM w m) := by
  induction n with
  | zero => intro a1 m hg; cases hg
  | succ n ih => intro a1 m hg; exact s_X3_forgetAll_2_b C hE ih a1 m hg
theorem c_X3_forgetAll {w : rf_w} {m : rf_m} {r : rf_m} (hg : g_X3_forgetAll w m = some r) : rf_Con j_X3_forgetAll 2 (rf_sh w) [.ref 26] (rf_MM w m) none (rf_MM w r) := by
  refine rf_con j_X3_forgetAll 2 ⟨by decide +kernel, rfl, Nat.le_of_ble_eq_true rfl⟩ (fun K C hE => ?_)
  unfold g_X3_forgetAll at hg
  show rf_V 2 (rf_sh w) K 0 0 0 ([(0, .ref 26)], [], rf_MM w m)
  refine rf_seg C [(.iconst 0, 1), (.istore 1, 1)] (pc' := 2) (S' := ([(1, .int 0), (0, .ref 26)], [], rf_MM w m)) (by decide +kernel) rfl trivial ?_
  refine rf_few [1, 0] rfl ?_
  exact s_X3_forgetAll_2 C hE rf_fuel 0 m hg
-- X9_striker
abbrev j_X9_striker : rf_J := (9, yX9_striker, cX9_striker, 3, (some .int))
theorem mw_X9_striker : rf_mv j_X9_striker (rf_R 9) 1 := ⟨⟨rf_mem 27 (by decide +kernel), rf_mem 27 (by decide +kernel), rf_mem 0 (by decide +kernel), rf_mem 27 (by decide +kernel)⟩, by decide +kernel, by decide⟩
def g_X9_striker_30 (w : rf_w) (rec2 : Int32 → Int32 → rf_m → Option (Int32 × rf_m)) (a1 : Int32) (a2 : Int32) (m : rf_m) : Option (Int32 × rf_m) := rec2 a1 (a2 + 1) m
def g_X9_striker_2_b (w : rf_w) (rec2 : Int32 → Int32 → rf_m → Option (Int32 × rf_m)) (a1 : Int32) (a2 : Int32) (m : rf_m) : Option (Int32 × rf_m) := (if (m.1 13 3) ≤ a2 then some ((-2), m) else rf_b (g_X9_isDue w m a2 1 a1) fun y0 m0 => (if y0 = 0 then g_X9_striker_30 w rec2 a1 a2 m0 else rf_b (g_X9_holds w m0 a2) fun y1 m1 => (if y1 = 0 then g_X9_striker_30 w rec2 a1 a2 m1 else some (a2, m1))))
def g_X9_striker_2 (w : rf_w) : Nat → Int32 → Int32 → rf_m → Option (Int32 × rf_m)
  | 0, _, _, _ => none
  | n + 1, a1, a2, m => g_X9_striker_2_b w (g_X9_striker_2 w n) a1 a2 m
def g_X9_striker (w : rf_w) (m : rf_m) (a1 : Int32) : Option (Int32 × rf_m) := g_X9_striker_2 w rf_fuel a1 0 m
theorem s_X9_striker_30 {w : rf_w} {K : rf_K} {r : Int32 × rf_m} (C : rf_Ctx 9 cX9_striker 3 4 (rf_sh w) K) (hE : rf_End (some .int) K (rf_sh w) 0 0 (some (.int r.1)) (rf_MM w r.2)) {rec2 : Int32 → Int32 → rf_m → Option (Int32 × rf_m)} (hr2 : ∀ (a1 : Int32) (a2 : Int32) (m : rf_m), rec2 a1 a2 m = some r → rf_V 3 (rf_sh w) K 0 0 2 ([(0, .ref 13), (1, .int a1), (2, .int a2)], [], rf_MM w m)) (a1 : Int32) (a2 : Int32) (m : rf_m) (hg : g_X9_striker_30 w rec2 a1 a2 m = some r) : rf_V 3 (rf_sh w) K 0 0 30 ([(0, .ref 13), (1, .int a1), (2, .int a2)], [], rf_MM w m) := by
  unfold g_X9_striker_30 at hg
  refine rf_seg C [(.iinc 2 1, 3)] (pc' := 33) (S' := ([(2, .int (a2 + 1)), (0, .ref 13), (1, .int a1)], [], rf_MM w m)) (by decide +kernel) rfl trivial ?_
  refine rf_goto C (-31) 2 (by decide +kernel) ?_
  refine rf_few [1, 2, 0] rfl ?_
  exact hr2 a1 (a2 + 1) m hg
theorem s_X9_striker_2_b {w : rf_w} {K : rf_K} {r : Int32 × rf_m} (C : rf_Ctx 9 cX9_striker 3 4 (rf_sh w) K) (hE : rf_End (some .int) K (rf_sh w) 0 0 (some (.int r.1)) (rf_MM w r.2)) {rec2 : Int32 → Int32 → rf_m → Option (Int32 × rf_m)} (hr2 : ∀ (a1 : Int32) (a2 : Int32) (m : rf_m), rec2 a1 a2 m = some r → rf_V 3 (rf_sh w) K 0 0 2 ([(0, .ref 13), (1, .int a1), (2, .int a2)], [], rf_MM w m)) (a1 : Int32) (a2 : Int32) (m : rf_m) (hg : g_X9_striker_2_b w rec2 a1 a2 m = some r) : rf_V 3 (rf_sh w) K 0 0 2 ([(0, .ref 13), (1, .int a1), (2, .int a2)], [], rf_MM w m) := by
  unfold g_X9_striker_2_b at hg
  refine rf_seg C [(.iload 2, 1), (.aload 0, 1), (.invokeinterface 9 3, 3)] (pc' := 7) (S' := ([(0, .ref 13), (1, .int a1), (2, .int a2)], [.int (m.1 13 3), .int a2], rf_MM w m)) (by decide +kernel) rfl trivial ?_
  refine rf_icmp_ge C 29 36 (by decide +kernel) (fun hc => ?_) (fun hc => ?_)
  · replace hg := (if_pos hc).symm.trans hg
    refine rf_seg C [(.iconst (-2), 2)] (pc' := 38) (S' := ([(0, .ref 13), (1, .int a1), (2, .int a2)], [.int ((-2))], rf_MM w m)) (by decide +kernel) rfl trivial ?_
    obtain rfl := Option.some.inj hg
    exact rf_iret C hE (by decide +kernel)
  · replace hg := (if_neg hc).symm.trans hg
    refine rf_seg C [(.aload 0, 1), (.iload 2, 1), (.iconst 1, 1), (.iload 1, 1)] (pc' := 14) (S' := ([(0, .ref 13), (1, .int a1), (2, .int a2)], [.int a1, .int 1, .int a2, .ref 13], rf_MM w m)) (by decide +kernel) rfl trivial ?_
    obtain ⟨y0, m0, hc0, hg⟩ := rf_b_some hg
    refine rf_callv C rf_fit0 j_X9_isDue (ci := 9) (As := [.int a2, .int 1, .int a1]) (rest := []) mw_X9_isDue (c_X9_isDue hc0) (by decide) rfl (by decide) lk_9_81 rfl rfl (Nat.le_of_ble_eq_true rfl) (by decide +kernel) ?_
    show rf_V 3 (rf_sh w) K 0 0 17 ([(0, .ref 13), (1, .int a1), (2, .int a2)], [.int y0], rf_MM w m0)
    refine rf_if_eq C 13 30 (by decide +kernel) (fun hc => ?_) (fun hc => ?_)
    · replace hg := (if_pos hc).symm.trans hg
      refine rf_few [0, 1, 2] rfl ?_
      exact s_X9_striker_30 C hE hr2 a1 a2 m0 hg
    · replace hg := (if_neg hc).symm.trans hg
      refine rf_seg C [(.aload 0, 1), (.iload 2, 1)] (pc' := 22) (S' := ([(0, .ref 13), (1, .int a1), (2, .int a2)], [.int a2, .ref 13], rf_MM w m0)) (by decide +kernel) rfl trivial ?_
      obtain ⟨y1, m1, hc1, hg⟩ := rf_b_some hg
      refine rf_callv C rf_fit0 j_X9_holds (ci := 9) (As := [.int a2]) (rest := []) mw_X9_holds (c_X9_holds hc1) (by decide) rfl (by decide) lk_9_85 rfl rfl (Nat.le_of_ble_eq_true rfl) (by decide +kernel) ?_
      show rf_V 3 (rf_sh w) K 0 0 25 ([(0, .ref 13), (1, .int a1), (2, .int a2)], [.int y1], rf_MM w m1)
      refine rf_if_eq C 5 30 (by decide +kernel) (fun hc => ?_) (fun hc => ?_)
      · replace hg := (if_pos hc).symm.trans hg
        refine rf_few [0, 1, 2] rfl ?_
        exact s_X9_striker_30 C hE hr2 a1 a2 m1 hg
      · replace hg := (if_neg hc).symm.trans hg
        refine rf_seg C [(.iload 2, 1)] (pc' := 29) (S' := ([(0, .ref 13), (1, .int a1), (2, .int a2)], [.int a2], rf_MM w m1)) (by decide +kernel) rfl trivial ?_
        obtain rfl := Option.some.inj hg
        exact rf_iret C hE (by decide +kernel)
theorem s_X9_striker_2 {w : rf_w} {K : rf_K} {r : Int32 × rf_m} (C : rf_Ctx 9 cX9_striker 3 4 (rf_sh w) K) (hE : rf_End (some .int) K (rf_sh w) 0 0 (some (.int r.1)) (rf_MM w r.2)) (n : Nat) : ∀ (a1 : Int32) (a2 : Int32) (m : rf_m), g_X9_striker_2 w n a1 a2 m = some r → rf_V 3 (rf_sh w) K 0 0 2 ([(0, .ref 13), (1, .int a1), (2, .int a2)], [], rf_MM w m) := by
  induction n with
  | zero => intro a1 a2 m hg; cases hg
  | succ n ih => intro a1 a2 m hg; exact s_X9_striker_2_b C hE ih a1 a2 m hg
theorem c_X9_striker {w : rf_w} {m : rf_m} {a1 : Int32} {r : Int32 × rf_m} (hg : g_X9_striker w m a1 = some r) : rf_Con j_X9_striker 4 (rf_sh w) [.ref 13, .int a1] (rf_MM w m) (some (.int r.1)) (rf_MM w r.2) := by
  refine rf_con j_X9_striker 4 ⟨by decide +kernel, rfl, Nat.le_of_ble_eq_true rfl⟩ (fun K C hE => ?_)
  unfold g_X9_striker at hg
  show rf_V 3 (rf_sh w) K 0 0 0 ([(0, .ref 13), (1, .int a1)], [], rf_MM w m)
  refine rf_seg C [(.iconst 0, 1), (.istore 2, 1)] (pc' := 2) (S' := ([(2, .int 0), (0, .ref 13), (1, .int a1)], [], rf_MM w m)) (by decide +kernel) rfl trivial ?_
  refine rf_few [1, 2, 0] rfl ?_
  exact s_X9_striker_2 C hE rf_fuel a1 0 m hg
-- X3_judge
abbrev j_X3_judge : rf_J := (3, yX3_judge, cX3_judge, 10, (some .boolean))
theorem mw_X3_judge : rf_mv j_X3_judge (rf_R 3) 3 := ⟨⟨rf_mem 27 (by decide +kernel), rf_mem 27 (by decide +kernel), rf_mem 0 (by decide +kernel), rf_mem 27 (by decide +kernel)⟩, by decide +kernel, by decide⟩
def g_X3_judge_184 (w : rf_w) (a4 : Int32) (a7 : Int32) (a8 : Int32) (a9 : Int32) (s1 : Int32) (s2 : Int32) (m : rf_m) : Option (Int32 × rf_m) := rf_g (rf_in s1 10800) (rf_g (rf_in (a4 + 6) 10800) ((if a9 = 0 then rf_g (rf_in (a4 + 7) 10800) (rf_g (rf_in (a4 + 8) 10800) (rf_g (rf_01 a9) (some (a9, rf_i (rf_i (rf_i (rf_i m 32 (Int32.toNatClampNeg s1) s2) 32 (Int32.toNatClampNeg (a4 + 6)) a8) 32 (Int32.toNatClampNeg (a4 + 7)) 0) 32 (Int32.toNatClampNeg (a4 + 8)) a7)))) else rf_g (rf_in (a4 + 7) 10800) (rf_g (rf_in (a4 + 8) 10800) (rf_g (rf_01 a9) (some (a9, rf_i (rf_i (rf_i (rf_i m 32 (Int32.toNatClampNeg s1) s2) 32 (Int32.toNatClampNeg (a4 + 6)) a8) 32 (Int32.toNatClampNeg (a4 + 7)) 1) 32 (Int32.toNatClampNeg (a4 + 8)) a7)))))))
def g_X3_judge_164 (w : rf_w) (a4 : Int32) (a6 : Int32) (a7 : Int32) (a8 : Int32) (s0 : Int32) (m : rf_m) : Option (Int32 × rf_m) := (if a6 = 0 then g_X3_judge_184 w a4 a7 a8 s0 (a4 + 5) 0 m else g_X3_judge_184 w a4 a7 a8 s0 (a4 + 5) 1 m)
def g_X3_judge_163 (w : rf_w) (a4 : Int32) (a6 : Int32) (a7 : Int32) (a8 : Int32) (m : rf_m) : Option (Int32 × rf_m) := g_X3_judge_164 w a4 a6 a7 a8 0 m
def g_X3_judge_142 (w : rf_w) (a4 : Int32) (a5 : Int32) (a6 : Int32) (a7 : Int32) (a8 : Int32) (m : rf_m) : Option (Int32 × rf_m) := (if a5 = 0 then g_X3_judge_163 w a4 a6 a7 a8 m else (if a6 = 0 then (if a8 = ((-2)) then g_X3_judge_164 w a4 a6 a7 a8 1 m else g_X3_judge_163 w a4 a6 a7 a8 m) else g_X3_judge_163 w a4 a6 a7 a8 m))
def g_X3_judge_66 (w : rf_w) (a4 : Int32) (a5 : Int32) (a6 : Int32) (s0 : Int32) (m : rf_m) : Option (Int32 × rf_m) := (if a5 = 0 then g_X3_judge_142 w a4 a5 a6 s0 ((-2)) m else rf_g (rf_in (a4 + 2) 10800) (rf_g (rf_in (a4 + 3) 10800) (rf_g (rf_in (a4 + 4) 10800) (rf_b (g_X9_striker w (rf_i (rf_i (rf_i m 18 (Int32.toNatClampNeg 0) s0) 18 (Int32.toNatClampNeg 1) ((rf_i m 18 (Int32.toNatClampNeg 0) s0).1 32 (Int32.toNatClampNeg (a4 + 2)))) 18 (Int32.toNatClampNeg 2) ((rf_i (rf_i m 18 (Int32.toNatClampNeg 0) s0) 18 (Int32.toNatClampNeg 1) ((rf_i m 18 (Int32.toNatClampNeg 0) s0).1 32 (Int32.toNatClampNeg (a4 + 2)))).1 32 (Int32.toNatClampNeg (a4 + 3)))) ((rf_i (rf_i (rf_i m 18 (Int32.toNatClampNeg 0) s0) 18 (Int32.toNatClampNeg 1) ((rf_i m 18 (Int32.toNatClampNeg 0) s0).1 32 (Int32.toNatClampNeg (a4 + 2)))) 18 (Int32.toNatClampNeg 2) ((rf_i (rf_i m 18 (Int32.toNatClampNeg 0) s0) 18 (Int32.toNatClampNeg 1) ((rf_i m 18 (Int32.toNatClampNeg 0) s0).1 32 (Int32.toNatClampNeg (a4 + 2)))).1 32 (Int32.toNatClampNeg (a4 + 3)))).1 32 (Int32.toNatClampNeg (a4 + 4)))) fun y3 m3 => g_X3_judge_142 w a4 a5 a6 s0 y3 m3))))
def g_X3_judge_32 (w : rf_w) (a1 : Int32) (a2 : Int32) (a3 : Int32) (a4 : Int32) (s0 : Int32) (m : rf_m) : Option (Int32 × rf_m) := rf_b (g_X3_isStruck w m a1 a3) fun y0 m0 => (if s0 = 0 then g_X3_judge_66 w a4 s0 y0 ((-2)) m0 else rf_g (rf_in (a4 + 1) 10800) (rf_b (g_abs w m0 ((m0.1 32 (Int32.toNatClampNeg (a4 + 1))) - a2)) fun y2 m2 => g_X3_judge_66 w a4 s0 y0 y2 m2))
def g_X3_judge_31 (w : rf_w) (a1 : Int32) (a2 : Int32) (a3 : Int32) (a4 : Int32) (m : rf_m) : Option (Int32 × rf_m) := g_X3_judge_32 w a1 a2 a3 a4 0 m
def g_X3_judge (w : rf_w) (m : rf_m) (a1 : Int32) (a2 : Int32) (a3 : Int32) : Option (Int32 × rf_m) := rf_b (g_X3_isSeen w m a1) fun y0 m0 => (if y0 = 0 then g_X3_judge_31 w a1 a2 a3 (a1 * 9) m0 else rf_g (rf_in ((a1 * 9) + 4) 10800) ((if a3 < (m0.1 32 (Int32.toNatClampNeg ((a1 * 9) + 4))) then g_X3_judge_31 w a1 a2 a3 (a1 * 9) m0 else g_X3_judge_32 w a1 a2 a3 (a1 * 9) 1 m0)))
theorem s_X3_judge_184 {w : rf_w} {K : rf_K} {r : Int32 × rf_m} (C : rf_Ctx 3 cX3_judge 10 5 (rf_sh w) K) (hE : rf_End (some .boolean) K (rf_sh w) 0 0 (some (.int r.1)) (rf_MM w r.2)) (a4 : Int32) (a7 : Int32) (a8 : Int32) (a9 : Int32) (s1 : Int32) (s2 : Int32) (m : rf_m) (hg : g_X3_judge_184 w a4 a7 a8 a9 s1 s2 m = some r) : rf_V 10 (rf_sh w) K 0 0 184 ([(0, .ref 26), (4, .int a4), (7, .int a7), (8, .int a8), (9, .int a9)], [.int s2, .int s1, .ref 32], rf_MM w m) := by
  unfold g_X3_judge_184 at hg
  obtain ⟨q0, hg⟩ := rf_g_some hg
  obtain ⟨q1, hg⟩ := rf_g_some hg
  refine rf_seg C [(.iastore, 1), (.aload 0, 1), (.invokeinterface 3 9, 3), (.iload 4, 2), (.iconst 6, 2), (.iadd, 1), (.iload 8, 2), (.iastore, 1), (.aload 0, 1), (.invokeinterface 3 9, 3), (.iload 4, 2), (.iconst 7, 2), (.iadd, 1), (.iload 9, 2)] (pc' := 208) (S' := ([(0, .ref 26), (4, .int a4), (7, .int a7), (8, .int a8), (9, .int a9)], [.int a9, .int (a4 + 7), .ref 32], rf_MM w (rf_i (rf_i m 32 (Int32.toNatClampNeg s1) s2) 32 (Int32.toNatClampNeg (a4 + 6)) a8))) (by decide +kernel) rfl (by exact ⟨(rf_in_of q0), (rf_in_of q1)⟩) ?_
  refine rf_if_eq C 7 215 (by decide +kernel) (fun hc => ?_) (fun hc => ?_)
  · replace hg := (if_pos hc).symm.trans hg
    obtain ⟨q2, hg⟩ := rf_g_some hg
    obtain ⟨q3, hg⟩ := rf_g_some hg
    refine rf_seg C [(.iconst 0, 1), (.iastore, 1), (.aload 0, 1), (.invokeinterface 3 9, 3), (.iload 4, 2), (.iconst 8, 2), (.iadd, 1), (.iload 7, 2), (.iastore, 1), (.iload 9, 2)] (pc' := 231) (S' := ([(0, .ref 26), (4, .int a4), (7, .int a7), (8, .int a8), (9, .int a9)], [.int a9], rf_MM w (rf_i (rf_i (rf_i (rf_i m 32 (Int32.toNatClampNeg s1) s2) 32 (Int32.toNatClampNeg (a4 + 6)) a8) 32 (Int32.toNatClampNeg (a4 + 7)) 0) 32 (Int32.toNatClampNeg (a4 + 8)) a7))) (by decide +kernel) rfl (by exact ⟨(rf_in_of q2), (rf_in_of q3)⟩) ?_
    obtain ⟨q01, hg⟩ := rf_g_some hg
    obtain rfl := Option.some.inj hg
    exact rf_zret C hE (rf_01_of q01) (by decide +kernel)
  · replace hg := (if_neg hc).symm.trans hg
    refine rf_seg C [(.iconst 1, 1)] (pc' := 212) (S' := ([(0, .ref 26), (4, .int a4), (7, .int a7), (8, .int a8), (9, .int a9)], [.int 1, .int (a4 + 7), .ref 32], rf_MM w (rf_i (rf_i m 32 (Int32.toNatClampNeg s1) s2) 32 (Int32.toNatClampNeg (a4 + 6)) a8))) (by decide +kernel) rfl trivial ?_
    refine rf_goto C 4 216 (by decide +kernel) ?_
    obtain ⟨q4, hg⟩ := rf_g_some hg
    obtain ⟨q5, hg⟩ := rf_g_some hg
    refine rf_seg C [(.iastore, 1), (.aload 0, 1), (.invokeinterface 3 9, 3), (.iload 4, 2), (.iconst 8, 2), (.iadd, 1), (.iload 7, 2), (.iastore, 1), (.iload 9, 2)] (pc' := 231) (S' := ([(0, .ref 26), (4, .int a4), (7, .int a7), (8, .int a8), (9, .int a9)], [.int a9], rf_MM w (rf_i (rf_i (rf_i (rf_i m 32 (Int32.toNatClampNeg s1) s2) 32 (Int32.toNatClampNeg (a4 + 6)) a8) 32 (Int32.toNatClampNeg (a4 + 7)) 1) 32 (Int32.toNatClampNeg (a4 + 8)) a7))) (by decide +kernel) rfl (by exact ⟨(rf_in_of q4), (rf_in_of q5)⟩) ?_
    obtain ⟨q01, hg⟩ := rf_g_some hg
    obtain rfl := Option.some.inj hg
    exact rf_zret C hE (rf_01_of q01) (by decide +kernel)
theorem s_X3_judge_164 {w : rf_w} {K : rf_K} {r : Int32 × rf_m} (C : rf_Ctx 3 cX3_judge 10 5 (rf_sh w) K) (hE : rf_End (some .boolean) K (rf_sh w) 0 0 (some (.int r.1)) (rf_MM w r.2)) (a4 : Int32) (a6 : Int32) (a7 : Int32) (a8 : Int32) (s0 : Int32) (m : rf_m) (hg : g_X3_judge_164 w a4 a6 a7 a8 s0 m = some r) : rf_V 10 (rf_sh w) K 0 0 164 ([(0, .ref 26), (4, .int a4), (6, .int a6), (7, .int a7), (8, .int a8)], [.int s0], rf_MM w m) := by
  unfold g_X3_judge_164 at hg
  refine rf_seg C [(.istore 9, 2), (.aload 0, 1), (.invokeinterface 3 9, 3), (.iload 4, 2), (.iconst 5, 1), (.iadd, 1), (.iload 6, 2)] (pc' := 176) (S' := ([(9, .int s0), (0, .ref 26), (4, .int a4), (6, .int a6), (7, .int a7), (8, .int a8)], [.int a6, .int (a4 + 5), .ref 32], rf_MM w m)) (by decide +kernel) rfl trivial ?_
  refine rf_if_eq C 7 183 (by decide +kernel) (fun hc => ?_) (fun hc => ?_)
  · replace hg := (if_pos hc).symm.trans hg
    refine rf_seg C [(.iconst 0, 1)] (pc' := 184) (S' := ([(9, .int s0), (0, .ref 26), (4, .int a4), (6, .int a6), (7, .int a7), (8, .int a8)], [.int 0, .int (a4 + 5), .ref 32], rf_MM w m)) (by decide +kernel) rfl trivial ?_
    refine rf_few [1, 2, 4, 5, 0] rfl ?_
    exact s_X3_judge_184 C hE a4 a7 a8 s0 (a4 + 5) 0 m hg
  · replace hg := (if_neg hc).symm.trans hg
    refine rf_seg C [(.iconst 1, 1)] (pc' := 180) (S' := ([(9, .int s0), (0, .ref 26), (4, .int a4), (6, .int a6), (7, .int a7), (8, .int a8)], [.int 1, .int (a4 + 5), .ref 32], rf_MM w m)) (by decide +kernel) rfl trivial ?_
    refine rf_goto C 4 184 (by decide +kernel) ?_
    refine rf_few [1, 2, 4, 5, 0] rfl ?_
    exact s_X3_judge_184 C hE a4 a7 a8 s0 (a4 + 5) 1 m hg
theorem s_X3_judge_163 {w : rf_w} {K : rf_K} {r : Int32 × rf_m} (C : rf_Ctx 3 cX3_judge 10 5 (rf_sh w) K) (hE : rf_End (some .boolean) K (rf_sh w) 0 0 (some (.int r.1)) (rf_MM w r.2)) (a4 : Int32) (a6 : Int32) (a7 : Int32) (a8 : Int32) (m : rf_m) (hg : g_X3_judge_163 w a4 a6 a7 a8 m = some r) : rf_V 10 (rf_sh w) K 0 0 163 ([(0, .ref 26), (4, .int a4), (6, .int a6), (7, .int a7), (8, .int a8)], [], rf_MM w m) := by
  unfold g_X3_judge_163 at hg
  refine rf_seg C [(.iconst 0, 1)] (pc' := 164) (S' := ([(0, .ref 26), (4, .int a4), (6, .int a6), (7, .int a7), (8, .int a8)], [.int 0], rf_MM w m)) (by decide +kernel) rfl trivial ?_
  refine rf_few [0, 1, 2, 3, 4] rfl ?_
  exact s_X3_judge_164 C hE a4 a6 a7 a8 0 m hg
theorem s_X3_judge_142 {w : rf_w} {K : rf_K} {r : Int32 × rf_m} (C : rf_Ctx 3 cX3_judge 10 5 (rf_sh w) K) (hE : rf_End (some .boolean) K (rf_sh w) 0 0 (some (.int r.1)) (rf_MM w r.2)) (a4 : Int32) (a5 : Int32) (a6 : Int32) (a7 : Int32) (a8 : Int32) (m : rf_m) (hg : g_X3_judge_142 w a4 a5 a6 a7 a8 m = some r) : rf_V 10 (rf_sh w) K 0 0 142 ([(0, .ref 26), (4, .int a4), (5, .int a5), (6, .int a6), (7, .int a7), (8, .int a8)], [], rf_MM w m) := by
  unfold g_X3_judge_142 at hg
  refine rf_seg C [(.iload 5, 2)] (pc' := 144) (S' := ([(0, .ref 26), (4, .int a4), (5, .int a5), (6, .int a6), (7, .int a7), (8, .int a8)], [.int a5], rf_MM w m)) (by decide +kernel) rfl trivial ?_
  refine rf_if_eq C 19 163 (by decide +kernel) (fun hc => ?_) (fun hc => ?_)
  · replace hg := (if_pos hc).symm.trans hg
    refine rf_few [0, 1, 3, 4, 5] rfl ?_
    exact s_X3_judge_163 C hE a4 a6 a7 a8 m hg
  · replace hg := (if_neg hc).symm.trans hg
    refine rf_seg C [(.iload 6, 2)] (pc' := 149) (S' := ([(0, .ref 26), (4, .int a4), (5, .int a5), (6, .int a6), (7, .int a7), (8, .int a8)], [.int a6], rf_MM w m)) (by decide +kernel) rfl trivial ?_
    refine rf_if_ne C 14 163 (by decide +kernel) (fun hc => ?_) (fun hc => ?_)
    · replace hg := (if_neg hc).symm.trans hg
      refine rf_few [0, 1, 3, 4, 5] rfl ?_
      exact s_X3_judge_163 C hE a4 a6 a7 a8 m hg
    · replace hg := (if_pos hc).symm.trans hg
      refine rf_seg C [(.iload 8, 2), (.iconst (-2), 2)] (pc' := 156) (S' := ([(0, .ref 26), (4, .int a4), (5, .int a5), (6, .int a6), (7, .int a7), (8, .int a8)], [.int ((-2)), .int a8], rf_MM w m)) (by decide +kernel) rfl trivial ?_
      refine rf_icmp_ne C 7 163 (by decide +kernel) (fun hc => ?_) (fun hc => ?_)
      · replace hg := (if_neg hc).symm.trans hg
        refine rf_few [0, 1, 3, 4, 5] rfl ?_
        exact s_X3_judge_163 C hE a4 a6 a7 a8 m hg
      · replace hg := (if_pos hc).symm.trans hg
        refine rf_seg C [(.iconst 1, 1)] (pc' := 160) (S' := ([(0, .ref 26), (4, .int a4), (5, .int a5), (6, .int a6), (7, .int a7), (8, .int a8)], [.int 1], rf_MM w m)) (by decide +kernel) rfl trivial ?_
        refine rf_goto C 4 164 (by decide +kernel) ?_
        refine rf_few [0, 1, 3, 4, 5] rfl ?_
        exact s_X3_judge_164 C hE a4 a6 a7 a8 1 m hg
theorem s_X3_judge_66 {w : rf_w} {K : rf_K} {r : Int32 × rf_m} (C : rf_Ctx 3 cX3_judge 10 5 (rf_sh w) K) (hE : rf_End (some .boolean) K (rf_sh w) 0 0 (some (.int r.1)) (rf_MM w r.2)) (a4 : Int32) (a5 : Int32) (a6 : Int32) (s0 : Int32) (m : rf_m) (hg : g_X3_judge_66 w a4 a5 a6 s0 m = some r) : rf_V 10 (rf_sh w) K 0 0 66 ([(0, .ref 26), (4, .int a4), (5, .int a5), (6, .int a6)], [.int s0], rf_MM w m) := by
  unfold g_X3_judge_66 at hg
  refine rf_seg C [(.istore 7, 2), (.iconst (-2), 2), (.istore 8, 2), (.iload 5, 2)] (pc' := 74) (S' := ([(8, .int ((-2))), (7, .int s0), (0, .ref 26), (4, .int a4), (5, .int a5), (6, .int a6)], [.int a5], rf_MM w m)) (by decide +kernel) rfl trivial ?_
  refine rf_if_eq C 68 142 (by decide +kernel) (fun hc => ?_) (fun hc => ?_)
  · replace hg := (if_pos hc).symm.trans hg
    refine rf_few [2, 3, 4, 5, 1, 0] rfl ?_
    exact s_X3_judge_142 C hE a4 a5 a6 s0 ((-2)) m hg
  · replace hg := (if_neg hc).symm.trans hg
    obtain ⟨q0, hg⟩ := rf_g_some hg
    obtain ⟨q1, hg⟩ := rf_g_some hg
    obtain ⟨q2, hg⟩ := rf_g_some hg
    refine rf_seg C [(.aload 0, 1), (.invokeinterface 3 8, 3), (.invokeinterface 9 1, 3), (.iconst 0, 1), (.iload 7, 2), (.iastore, 1), (.aload 0, 1), (.invokeinterface 3 8, 3), (.invokeinterface 9 1, 3), (.iconst 1, 1), (.aload 0, 1), (.invokeinterface 3 9, 3), (.iload 4, 2), (.iconst 2, 1), (.iadd, 1), (.iaload, 1), (.iastore, 1), (.aload 0, 1), (.invokeinterface 3 8, 3), (.invokeinterface 9 1, 3), (.iconst 2, 1), (.aload 0, 1), (.invokeinterface 3 9, 3), (.iload 4, 2), (.iconst 3, 1), (.iadd, 1), (.iaload, 1), (.iastore, 1), (.aload 0, 1), (.invokeinterface 3 8, 3), (.aload 0, 1), (.invokeinterface 3 9, 3), (.iload 4, 2), (.iconst 4, 1), (.iadd, 1), (.iaload, 1)] (pc' := 137) (S' := ([(8, .int ((-2))), (7, .int s0), (0, .ref 26), (4, .int a4), (5, .int a5), (6, .int a6)], [.int ((rf_i (rf_i (rf_i m 18 (Int32.toNatClampNeg 0) s0) 18 (Int32.toNatClampNeg 1) ((rf_i m 18 (Int32.toNatClampNeg 0) s0).1 32 (Int32.toNatClampNeg (a4 + 2)))) 18 (Int32.toNatClampNeg 2) ((rf_i (rf_i m 18 (Int32.toNatClampNeg 0) s0) 18 (Int32.toNatClampNeg 1) ((rf_i m 18 (Int32.toNatClampNeg 0) s0).1 32 (Int32.toNatClampNeg (a4 + 2)))).1 32 (Int32.toNatClampNeg (a4 + 3)))).1 32 (Int32.toNatClampNeg (a4 + 4))), .ref 13], rf_MM w (rf_i (rf_i (rf_i m 18 (Int32.toNatClampNeg 0) s0) 18 (Int32.toNatClampNeg 1) ((rf_i m 18 (Int32.toNatClampNeg 0) s0).1 32 (Int32.toNatClampNeg (a4 + 2)))) 18 (Int32.toNatClampNeg 2) ((rf_i (rf_i m 18 (Int32.toNatClampNeg 0) s0) 18 (Int32.toNatClampNeg 1) ((rf_i m 18 (Int32.toNatClampNeg 0) s0).1 32 (Int32.toNatClampNeg (a4 + 2)))).1 32 (Int32.toNatClampNeg (a4 + 3)))))) (by decide +kernel) rfl (by exact ⟨(rf_in_of (by decide)), (rf_in_of q0), (rf_in_of (by decide)), (rf_in_of q1), (rf_in_of (by decide)), (rf_in_of q2)⟩) ?_
    obtain ⟨y3, m3, hc3, hg⟩ := rf_b_some hg
    refine rf_callv C rf_fit0 j_X9_striker (ci := 9) (As := [.int ((rf_i (rf_i (rf_i m 18 (Int32.toNatClampNeg 0) s0) 18 (Int32.toNatClampNeg 1) ((rf_i m 18 (Int32.toNatClampNeg 0) s0).1 32 (Int32.toNatClampNeg (a4 + 2)))) 18 (Int32.toNatClampNeg 2) ((rf_i (rf_i m 18 (Int32.toNatClampNeg 0) s0) 18 (Int32.toNatClampNeg 1) ((rf_i m 18 (Int32.toNatClampNeg 0) s0).1 32 (Int32.toNatClampNeg (a4 + 2)))).1 32 (Int32.toNatClampNeg (a4 + 3)))).1 32 (Int32.toNatClampNeg (a4 + 4)))]) (rest := []) mw_X9_striker (c_X9_striker hc3) (by decide) rfl (by decide) lk_3_122 rfl rfl (Nat.le_of_ble_eq_true rfl) (by decide +kernel) ?_
    show rf_V 10 (rf_sh w) K 0 0 140 ([(8, .int ((-2))), (7, .int s0), (0, .ref 26), (4, .int a4), (5, .int a5), (6, .int a6)], [.int y3], rf_MM w m3)
    refine rf_seg C [(.istore 8, 2)] (pc' := 142) (S' := ([(8, .int y3), (7, .int s0), (0, .ref 26), (4, .int a4), (5, .int a5), (6, .int a6)], [], rf_MM w m3)) (by decide +kernel) rfl trivial ?_
    refine rf_few [2, 3, 4, 5, 1, 0] rfl ?_
    exact s_X3_judge_142 C hE a4 a5 a6 s0 y3 m3 hg
theorem s_X3_judge_32 {w : rf_w} {K : rf_K} {r : Int32 × rf_m} (C : rf_Ctx 3 cX3_judge 10 5 (rf_sh w) K) (hE : rf_End (some .boolean) K (rf_sh w) 0 0 (some (.int r.1)) (rf_MM w r.2)) (a1 : Int32) (a2 : Int32) (a3 : Int32) (a4 : Int32) (s0 : Int32) (m : rf_m) (hg : g_X3_judge_32 w a1 a2 a3 a4 s0 m = some r) : rf_V 10 (rf_sh w) K 0 0 32 ([(0, .ref 26), (1, .int a1), (2, .int a2), (3, .int a3), (4, .int a4)], [.int s0], rf_MM w m) := by
  unfold g_X3_judge_32 at hg
  refine rf_seg C [(.istore 5, 2), (.aload 0, 1), (.iload 1, 1), (.iload 3, 1)] (pc' := 37) (S' := ([(5, .int s0), (0, .ref 26), (1, .int a1), (2, .int a2), (3, .int a3), (4, .int a4)], [.int a3, .int a1, .ref 26], rf_MM w m)) (by decide +kernel) rfl trivial ?_
  obtain ⟨y0, m0, hc0, hg⟩ := rf_b_some hg
  refine rf_callv C rf_fit0 j_X3_isStruck (ci := 3) (As := [.int a1, .int a3]) (rest := []) mw_X3_isStruck (c_X3_isStruck hc0) (by decide) rfl (by decide) lk_3_114 rfl rfl (Nat.le_of_ble_eq_true rfl) (by decide +kernel) ?_
  show rf_V 10 (rf_sh w) K 0 0 40 ([(5, .int s0), (0, .ref 26), (1, .int a1), (2, .int a2), (3, .int a3), (4, .int a4)], [.int y0], rf_MM w m0)
  refine rf_seg C [(.istore 6, 2), (.iload 5, 2)] (pc' := 44) (S' := ([(6, .int y0), (5, .int s0), (0, .ref 26), (1, .int a1), (2, .int a2), (3, .int a3), (4, .int a4)], [.int s0], rf_MM w m0)) (by decide +kernel) rfl trivial ?_
  refine rf_if_eq C 20 64 (by decide +kernel) (fun hc => ?_) (fun hc => ?_)
  · replace hg := (if_pos hc).symm.trans hg
    refine rf_seg C [(.iconst (-2), 2)] (pc' := 66) (S' := ([(6, .int y0), (5, .int s0), (0, .ref 26), (1, .int a1), (2, .int a2), (3, .int a3), (4, .int a4)], [.int ((-2))], rf_MM w m0)) (by decide +kernel) rfl trivial ?_
    refine rf_few [2, 6, 1, 0] rfl ?_
    exact s_X3_judge_66 C hE a4 s0 y0 ((-2)) m0 hg
  · replace hg := (if_neg hc).symm.trans hg
    obtain ⟨q1, hg⟩ := rf_g_some hg
    refine rf_seg C [(.aload 0, 1), (.invokeinterface 3 9, 3), (.iload 4, 2), (.iconst 1, 1), (.iadd, 1), (.iaload, 1), (.iload 2, 1), (.isub, 1)] (pc' := 58) (S' := ([(6, .int y0), (5, .int s0), (0, .ref 26), (1, .int a1), (2, .int a2), (3, .int a3), (4, .int a4)], [.int ((m0.1 32 (Int32.toNatClampNeg (a4 + 1))) - a2)], rf_MM w m0)) (by decide +kernel) rfl (rf_in_of q1) ?_
    obtain ⟨y2, m2, hc2, hg⟩ := rf_b_some hg
    refine rf_calls C rf_fit0 j_abs (As := [.int ((m0.1 32 (Int32.toNatClampNeg (a4 + 1))) - a2)]) (rest := []) mw_abs (c_abs hc2) (by decide) lk_3_118 rfl rfl (Nat.le_of_ble_eq_true rfl) (by decide +kernel) ?_
    show rf_V 10 (rf_sh w) K 0 0 61 ([(6, .int y0), (5, .int s0), (0, .ref 26), (1, .int a1), (2, .int a2), (3, .int a3), (4, .int a4)], [.int y2], rf_MM w m2)
    refine rf_goto C 5 66 (by decide +kernel) ?_
    refine rf_few [2, 6, 1, 0] rfl ?_
    exact s_X3_judge_66 C hE a4 s0 y0 y2 m2 hg
theorem s_X3_judge_31 {w : rf_w} {K : rf_K} {r : Int32 × rf_m} (C : rf_Ctx 3 cX3_judge 10 5 (rf_sh w) K) (hE : rf_End (some .boolean) K (rf_sh w) 0 0 (some (.int r.1)) (rf_MM w r.2)) (a1 : Int32) (a2 : Int32) (a3 : Int32) (a4 : Int32) (m : rf_m) (hg : g_X3_judge_31 w a1 a2 a3 a4 m = some r) : rf_V 10 (rf_sh w) K 0 0 31 ([(0, .ref 26), (1, .int a1), (2, .int a2), (3, .int a3), (4, .int a4)], [], rf_MM w m) := by
  unfold g_X3_judge_31 at hg
  refine rf_seg C [(.iconst 0, 1)] (pc' := 32) (S' := ([(0, .ref 26), (1, .int a1), (2, .int a2), (3, .int a3), (4, .int a4)], [.int 0], rf_MM w m)) (by decide +kernel) rfl trivial ?_
  refine rf_few [0, 1, 2, 3, 4] rfl ?_
  exact s_X3_judge_32 C hE a1 a2 a3 a4 0 m hg
theorem c_X3_judge {w : rf_w} {m : rf_m} {a1 : Int32} {a2 : Int32} {a3 : Int32} {r : Int32 × rf_m} (hg : g_X3_judge w m a1 a2 a3 = some r) : rf_Con j_X3_judge 5 (rf_sh w) [.ref 26, .int a1, .int a2, .int a3] (rf_MM w m) (some (.int r.1)) (rf_MM w r.2) := by
  refine rf_con j_X3_judge 5 ⟨by decide +kernel, rfl, Nat.le_of_ble_eq_true rfl⟩ (fun K C hE => ?_)
  unfold g_X3_judge at hg
  show rf_V 10 (rf_sh w) K 0 0 0 ([(0, .ref 26), (1, .int a1), (2, .int a2), (3, .int a3)], [], rf_MM w m)
  refine rf_seg C [(.iload 1, 1), (.iconst 9, 2), (.imul, 1), (.istore 4, 2), (.aload 0, 1), (.iload 1, 1)] (pc' := 8) (S' := ([(4, .int (a1 * 9)), (0, .ref 26), (1, .int a1), (2, .int a2), (3, .int a3)], [.int a1, .ref 26], rf_MM w m)) (by decide +kernel) rfl trivial ?_
  obtain ⟨y0, m0, hc0, hg⟩ := rf_b_some hg
  refine rf_callv C rf_fit0 j_X3_isSeen (ci := 3) (As := [.int a1]) (rest := []) mw_X3_isSeen (c_X3_isSeen hc0) (by decide) rfl (by decide) lk_3_110 rfl rfl (Nat.le_of_ble_eq_true rfl) (by decide +kernel) ?_
  show rf_V 10 (rf_sh w) K 0 0 11 ([(4, .int (a1 * 9)), (0, .ref 26), (1, .int a1), (2, .int a2), (3, .int a3)], [.int y0], rf_MM w m0)
  refine rf_if_eq C 20 31 (by decide +kernel) (fun hc => ?_) (fun hc => ?_)
  · replace hg := (if_pos hc).symm.trans hg
    refine rf_few [1, 2, 3, 4, 0] rfl ?_
    exact s_X3_judge_31 C hE a1 a2 a3 (a1 * 9) m0 hg
  · replace hg := (if_neg hc).symm.trans hg
    obtain ⟨q1, hg⟩ := rf_g_some hg
    refine rf_seg C [(.aload 0, 1), (.invokeinterface 3 9, 3), (.iload 4, 2), (.iconst 4, 1), (.iadd, 1), (.iaload, 1), (.iload 3, 1)] (pc' := 24) (S' := ([(4, .int (a1 * 9)), (0, .ref 26), (1, .int a1), (2, .int a2), (3, .int a3)], [.int a3, .int (m0.1 32 (Int32.toNatClampNeg ((a1 * 9) + 4)))], rf_MM w m0)) (by decide +kernel) rfl (rf_in_of q1) ?_
    refine rf_icmp_gt C 7 31 (by decide +kernel) (fun hc => ?_) (fun hc => ?_)
    · replace hg := (if_pos hc).symm.trans hg
      refine rf_few [1, 2, 3, 4, 0] rfl ?_
      exact s_X3_judge_31 C hE a1 a2 a3 (a1 * 9) m0 hg
    · replace hg := (if_neg hc).symm.trans hg
      refine rf_seg C [(.iconst 1, 1)] (pc' := 28) (S' := ([(4, .int (a1 * 9)), (0, .ref 26), (1, .int a1), (2, .int a2), (3, .int a3)], [.int 1], rf_MM w m0)) (by decide +kernel) rfl trivial ?_
      refine rf_goto C 4 32 (by decide +kernel) ?_
      refine rf_few [1, 2, 3, 4, 0] rfl ?_
      exact s_X3_judge_32 C hE a1 a2 a3 (a1 * 9) 1 m0 hg
-- X3_sortSeen
abbrev j_X3_sortSeen : rf_J := (3, yX3_sortSeen, cX3_sortSeen, 8, (some .int))
theorem mw_X3_sortSeen : rf_mv j_X3_sortSeen (rf_R 3) 2 := ⟨⟨rf_mem 26 (by decide +kernel), rf_mem 26 (by decide +kernel), rf_mem 0 (by decide +kernel), rf_mem 26 (by decide +kernel)⟩, by decide +kernel, by decide⟩
def g_X3_sortSeen_124 (w : rf_w) (rec5 : Int32 → Int32 → Int32 → Int32 → rf_m → Option (Int32 × rf_m)) (a1 : Int32) (a2 : Int32) (a3 : Int32) (a4 : Int32) (m : rf_m) : Option (Int32 × rf_m) := rec5 a1 a2 a3 (a4 + 1) m
def g_X3_sortSeen_112 (w : rf_w) (rec5 : Int32 → Int32 → Int32 → Int32 → rf_m → Option (Int32 × rf_m)) (a1 : Int32) (a2 : Int32) (a3 : Int32) (a4 : Int32) (a6 : Int32) (a7 : Int32) (m : rf_m) : Option (Int32 × rf_m) := rf_g (rf_in a7 20) (g_X3_sortSeen_124 w rec5 a1 a2 (a3 + 1) a4 (rf_i m 35 (Int32.toNatClampNeg a7) a6))
def g_X3_sortSeen_71_b (w : rf_w) (rec5 : Int32 → Int32 → Int32 → Int32 → rf_m → Option (Int32 × rf_m)) (rec71 : Int32 → Int32 → Int32 → Int32 → Int32 → Int32 → rf_m → Option (Int32 × rf_m)) (a1 : Int32) (a2 : Int32) (a3 : Int32) (a4 : Int32) (a6 : Int32) (a7 : Int32) (m : rf_m) : Option (Int32 × rf_m) := (if a7 ≤ 0 then g_X3_sortSeen_112 w rec5 a1 a2 a3 a4 a6 a7 m else rf_g (rf_in (a7 - 1) 20) ((if (m.1 35 (Int32.toNatClampNeg (a7 - 1))) ≤ a6 then g_X3_sortSeen_112 w rec5 a1 a2 a3 a4 a6 a7 m else rf_g (rf_in (a7 - 1) 20) (rf_g (rf_in a7 20) (rec71 a1 a2 a3 a4 a6 (a7 + (-1)) (rf_i m 35 (Int32.toNatClampNeg a7) (m.1 35 (Int32.toNatClampNeg (a7 - 1)))))))))
def g_X3_sortSeen_71 (w : rf_w) (rec5 : Int32 → Int32 → Int32 → Int32 → rf_m → Option (Int32 × rf_m)) : Nat → Int32 → Int32 → Int32 → Int32 → Int32 → Int32 → rf_m → Option (Int32 × rf_m)
  | 0, _, _, _, _, _, _, _ => none
  | n + 1, a1, a2, a3, a4, a6, a7, m => g_X3_sortSeen_71_b w rec5 (g_X3_sortSeen_71 w rec5 n) a1 a2 a3 a4 a6 a7 m
def g_X3_sortSeen_5_b (w : rf_w) (rec5 : Int32 → Int32 → Int32 → Int32 → rf_m → Option (Int32 × rf_m)) (a1 : Int32) (a2 : Int32) (a3 : Int32) (a4 : Int32) (m : rf_m) : Option (Int32 × rf_m) := rf_g (rf_in ((a1 * 9) + 6) 720) ((if (m.1 34 (Int32.toNatClampNeg ((a1 * 9) + 6))) ≤ a4 then some (a3, m) else rf_g (rf_in ((a1 * 20) + a4) 1600) (rf_vi (m.1 33 (Int32.toNatClampNeg ((a1 * 20) + a4))) fun x2 => rf_b (g_X3_isSeen w m x2) fun y3 m3 => (if y3 = 0 then g_X3_sortSeen_124 w rec5 a1 a2 a3 a4 m3 else rf_b (g_X3_factOf w m3 x2 4) fun y4 m4 => (if y4 ≤ a2 then rf_b (g_X3_factOf w m4 x2 1) fun y5 m5 => g_X3_sortSeen_71 w rec5 rf_fuel a1 a2 a3 a4 y5 a3 m5 else g_X3_sortSeen_124 w rec5 a1 a2 a3 a4 m4)))))
def g_X3_sortSeen_5 (w : rf_w) : Nat → Int32 → Int32 → Int32 → Int32 → rf_m → Option (Int32 × rf_m)
  | 0, _, _, _, _, _ => none
  | n + 1, a1, a2, a3, a4, m => g_X3_sortSeen_5_b w (g_X3_sortSeen_5 w n) a1 a2 a3 a4 m
def g_X3_sortSeen (w : rf_w) (m : rf_m) (a1 : Int32) (a2 : Int32) : Option (Int32 × rf_m) := g_X3_sortSeen_5 w rf_fuel a1 a2 0 0 m
theorem s_X3_sortSeen_124 {w : rf_w} {K : rf_K} {r : Int32 × rf_m} (C : rf_Ctx 3 cX3_sortSeen 8 3 (rf_sh w) K) (hE : rf_End (some .int) K (rf_sh w) 0 0 (some (.int r.1)) (rf_MM w r.2)) {rec5 : Int32 → Int32 → Int32 → Int32 → rf_m → Option (Int32 × rf_m)} (hr5 : ∀ (a1 : Int32) (a2 : Int32) (a3 : Int32) (a4 : Int32) (m : rf_m), rec5 a1 a2 a3 a4 m = some r → rf_V 8 (rf_sh w) K 0 0 5 ([(0, .ref 26), (1, .int a1), (2, .int a2), (3, .int a3), (4, .int a4)], [], rf_MM w m)) (a1 : Int32) (a2 : Int32) (a3 : Int32) (a4 : Int32) (m : rf_m) (hg : g_X3_sortSeen_124 w rec5 a1 a2 a3 a4 m = some r) : rf_V 8 (rf_sh w) K 0 0 124 ([(0, .ref 26), (1, .int a1), (2, .int a2), (3, .int a3), (4, .int a4)], [], rf_MM w m) := by
  unfold g_X3_sortSeen_124 at hg
  refine rf_seg C [(.iinc 4 1, 3)] (pc' := 127) (S' := ([(4, .int (a4 + 1)), (0, .ref 26), (1, .int a1), (2, .int a2), (3, .int a3)], [], rf_MM w m)) (by decide +kernel) rfl trivial ?_
  refine rf_goto C (-122) 5 (by decide +kernel) ?_
  refine rf_few [1, 2, 3, 4, 0] rfl ?_
  exact hr5 a1 a2 a3 (a4 + 1) m hg
theorem s_X3_sortSeen_112 {w : rf_w} {K : rf_K} {r : Int32 × rf_m} (C : rf_Ctx 3 cX3_sortSeen 8 3 (rf_sh w) K) (hE : rf_End (some .int) K (rf_sh w) 0 0 (some (.int r.1)) (rf_MM w r.2)) {rec5 : Int32 → Int32 → Int32 → Int32 → rf_m → Option (Int32 × rf_m)} (hr5 : ∀ (a1 : Int32) (a2 : Int32) (a3 : Int32) (a4 : Int32) (m : rf_m), rec5 a1 a2 a3 a4 m = some r → rf_V 8 (rf_sh w) K 0 0 5 ([(0, .ref 26), (1, .int a1), (2, .int a2), (3, .int a3), (4, .int a4)], [], rf_MM w m)) (a1 : Int32) (a2 : Int32) (a3 : Int32) (a4 : Int32) (a6 : Int32) (a7 : Int32) (m : rf_m) (hg : g_X3_sortSeen_112 w rec5 a1 a2 a3 a4 a6 a7 m = some r) : rf_V 8 (rf_sh w) K 0 0 112 ([(0, .ref 26), (1, .int a1), (2, .int a2), (3, .int a3), (4, .int a4), (6, .int a6), (7, .int a7)], [], rf_MM w m) := by
  unfold g_X3_sortSeen_112 at hg
  obtain ⟨q0, hg⟩ := rf_g_some hg
  refine rf_seg C [(.aload 0, 1), (.invokeinterface 3 12, 3), (.iload 7, 2), (.iload 6, 2), (.iastore, 1), (.iinc 3 1, 3)] (pc' := 124) (S' := ([(3, .int (a3 + 1)), (0, .ref 26), (1, .int a1), (2, .int a2), (4, .int a4), (6, .int a6), (7, .int a7)], [], rf_MM w (rf_i m 35 (Int32.toNatClampNeg a7) a6))) (by decide +kernel) rfl (rf_in_of q0) ?_
  refine rf_few [1, 2, 3, 0, 4] rfl ?_
  exact s_X3_sortSeen_124 C hE hr5 a1 a2 (a3 + 1) a4 (rf_i m 35 (Int32.toNatClampNeg a7) a6) hg
theorem s_X3_sortSeen_71_b {w : rf_w} {K : rf_K} {r : Int32 × rf_m} (C : rf_Ctx 3 cX3_sortSeen 8 3 (rf_sh w) K) (hE : rf_End (some .int) K (rf_sh w) 0 0 (some (.int r.1)) (rf_MM w r.2)) {rec5 : Int32 → Int32 → Int32 → Int32 → rf_m → Option (Int32 × rf_m)} {rec71 : Int32 → Int32 → Int32 → Int32 → Int32 → Int32 → rf_m → Option (Int32 × rf_m)} (hr5 : ∀ (a1 : Int32) (a2 : Int32) (a3 : Int32) (a4 : Int32) (m : rf_m), rec5 a1 a2 a3 a4 m = some r → rf_V 8 (rf_sh w) K 0 0 5 ([(0, .ref 26), (1, .int a1), (2, .int a2), (3, .int a3), (4, .int a4)], [], rf_MM w m)) (hr71 : ∀ (a1 : Int32) (a2 : Int32) (a3 : Int32) (a4 : Int32) (a6 : Int32) (a7 : Int32) (m : rf_m), rec71 a1 a2 a3 a4 a6 a7 m = some r → rf_V 8 (rf_sh w) K 0 0 71 ([(0, .ref 26), (1, .int a1), (2, .int a2), (3, .int a3), (4, .int a4), (6, .int a6), (7, .int a7)], [], rf_MM w m)) (a1 : Int32) (a2 : Int32) (a3 : Int32) (a4 : Int32) (a6 : Int32) (a7 : Int32) (m : rf_m) (hg : g_X3_sortSeen_71_b w rec5 rec71 a1 a2 a3 a4 a6 a7 m = some r) : rf_V 8 (rf_sh w) K 0 0 71 ([(0, .ref 26), (1, .int a1), (2, .int a2), (3, .int a3), (4, .int a4), (6, .int a6), (7, .int a7)], [], rf_MM w m) := by
  unfold g_X3_sortSeen_71_b at hg
  refine rf_seg C [(.iload 7, 2)] (pc' := 73) (S' := ([(0, .ref 26), (1, .int a1), (2, .int a2), (3, .int a3), (4, .int a4), (6, .int a6), (7, .int a7)], [.int a7], rf_MM w m)) (by decide +kernel) rfl trivial ?_
  refine rf_if_le C 39 112 (by decide +kernel) (fun hc => ?_) (fun hc => ?_)
  · replace hg := (if_pos hc).symm.trans hg
    refine rf_few [0, 1, 2, 3, 4, 5, 6] rfl ?_
    exact s_X3_sortSeen_112 C hE hr5 a1 a2 a3 a4 a6 a7 m hg
  · replace hg := (if_neg hc).symm.trans hg
    obtain ⟨q0, hg⟩ := rf_g_some hg
    refine rf_seg C [(.aload 0, 1), (.invokeinterface 3 12, 3), (.iload 7, 2), (.iconst 1, 1), (.isub, 1), (.iaload, 1), (.iload 6, 2)] (pc' := 87) (S' := ([(0, .ref 26), (1, .int a1), (2, .int a2), (3, .int a3), (4, .int a4), (6, .int a6), (7, .int a7)], [.int a6, .int (m.1 35 (Int32.toNatClampNeg (a7 - 1)))], rf_MM w m)) (by decide +kernel) rfl (rf_in_of q0) ?_
    refine rf_icmp_le C 25 112 (by decide +kernel) (fun hc => ?_) (fun hc => ?_)
    · replace hg := (if_pos hc).symm.trans hg
      refine rf_few [0, 1, 2, 3, 4, 5, 6] rfl ?_
      exact s_X3_sortSeen_112 C hE hr5 a1 a2 a3 a4 a6 a7 m hg
    · replace hg := (if_neg hc).symm.trans hg
      obtain ⟨q1, hg⟩ := rf_g_some hg
      obtain ⟨q2, hg⟩ := rf_g_some hg
      refine rf_seg C [(.aload 0, 1), (.invokeinterface 3 12, 3), (.iload 7, 2), (.aload 0, 1), (.invokeinterface 3 12, 3), (.iload 7, 2), (.iconst 1, 1), (.isub, 1), (.iaload, 1), (.iastore, 1), (.iinc 7 (-1), 3)] (pc' := 109) (S' := ([(7, .int (a7 + (-1))), (0, .ref 26), (1, .int a1), (2, .int a2), (3, .int a3), (4, .int a4), (6, .int a6)], [], rf_MM w (rf_i m 35 (Int32.toNatClampNeg a7) (m.1 35 (Int32.toNatClampNeg (a7 - 1)))))) (by decide +kernel) rfl (by exact ⟨(rf_in_of q1), (rf_in_of q2)⟩) ?_
      refine rf_goto C (-38) 71 (by decide +kernel) ?_
      refine rf_few [1, 2, 3, 4, 5, 6, 0] rfl ?_
      exact hr71 a1 a2 a3 a4 a6 (a7 + (-1)) (rf_i m 35 (Int32.toNatClampNeg a7) (m.1 35 (Int32.toNatClampNeg (a7 - 1)))) hg
theorem s_X3_sortSeen_71 {w : rf_w} {K : rf_K} {r : Int32 × rf_m} (C : rf_Ctx 3 cX3_sortSeen 8 3 (rf_sh w) K) (hE : rf_End (some .int) K (rf_sh w) 0 0 (some (.int r.1)) (rf_MM w r.2)) {rec5 : Int32 → Int32 → Int32 → Int32 → rf_m → Option (Int32 × rf_m)} (hr5 : ∀ (a1 : Int32) (a2 : Int32) (a3 : Int32) (a4 : Int32) (m : rf_m), rec5 a1 a2 a3 a4 m = some r → rf_V 8 (rf_sh w) K 0 0 5 ([(0, .ref 26), (1, .int a1), (2, .int a2), (3, .int a3), (4, .int a4)], [], rf_MM w m)) (n : Nat) : ∀ (a1 : Int32) (a2 : Int32) (a3 : Int32) (a4 : Int32) (a6 : Int32) (a7 : Int32) (m : rf_m), g_X3_sortSeen_71 w rec5 n a1 a2 a3 a4 a6 a7 m = some r → rf_V 8 (rf_sh w) K 0 0 71 ([(0, .ref 26), (1, .int a1), (2, .int a2), (3, .int a3), (4, .int a4), (6, .int a6), (7, .int a7)], [], rf_MM w m) := by
  induction n with
  | zero => intro a1 a2 a3 a4 a6 a7 m hg; cases hg
  | succ n ih => intro a1 a2 a3 a4 a6 a7 m hg; exact s_X3_sortSeen_71_b C hE hr5 ih a1 a2 a3 a4 a6 a7 m hg
theorem s_X3_sortSeen_5_b {w : rf_w} {K : rf_K} {r : Int32 × rf_m} (C : rf_Ctx 3 cX3_sortSeen 8 3 (rf_sh w) K) (hE : rf_End (some .int) K (rf_sh w) 0 0 (some (.int r.1)) (rf_MM w r.2)) {rec5 : Int32 → Int32 → Int32 → Int32 → rf_m → Option (Int32 × rf_m)} (hr5 : ∀ (a1 : Int32) (a2 : Int32) (a3 : Int32) (a4 : Int32) (m : rf_m), rec5 a1 a2 a3 a4 m = some r → rf_V 8 (rf_sh w) K 0 0 5 ([(0, .ref 26), (1, .int a1), (2, .int a2), (3, .int a3), (4, .int a4)], [], rf_MM w m)) (a1 : Int32) (a2 : Int32) (a3 : Int32) (a4 : Int32) (m : rf_m) (hg : g_X3_sortSeen_5_b w rec5 a1 a2 a3 a4 m = some r) : rf_V 8 (rf_sh w) K 0 0 5 ([(0, .ref 26), (1, .int a1), (2, .int a2), (3, .int a3), (4, .int a4)], [], rf_MM w m) := by
  unfold g_X3_sortSeen_5_b at hg
  obtain ⟨q0, hg⟩ := rf_g_some hg
  refine rf_seg C [(.iload 4, 2), (.aload 0, 1), (.invokeinterface 3 11, 3), (.iload 1, 1), (.iconst 9, 2), (.imul, 1), (.iconst 6, 2), (.iadd, 1), (.iaload, 1)] (pc' := 19) (S' := ([(0, .ref 26), (1, .int a1), (2, .int a2), (3, .int a3), (4, .int a4)], [.int (m.1 34 (Int32.toNatClampNeg ((a1 * 9) + 6))), .int a4], rf_MM w m)) (by decide +kernel) rfl (rf_in_of q0) ?_
  refine rf_icmp_ge C 111 130 (by decide +kernel) (fun hc => ?_) (fun hc => ?_)
  · replace hg := (if_pos hc).symm.trans hg
    refine rf_seg C [(.iload 3, 1)] (pc' := 131) (S' := ([(0, .ref 26), (1, .int a1), (2, .int a2), (3, .int a3), (4, .int a4)], [.int a3], rf_MM w m)) (by decide +kernel) rfl trivial ?_
    obtain rfl := Option.some.inj hg
    exact rf_iret C hE (by decide +kernel)
  · replace hg := (if_neg hc).symm.trans hg
    obtain ⟨q1, hg⟩ := rf_g_some hg
    refine rf_seg C [(.aload 0, 1), (.invokeinterface 3 10, 3), (.iload 1, 1), (.iconst 20, 2), (.imul, 1), (.iload 4, 2), (.iadd, 1), (.iaload, 1)] (pc' := 34) (S' := ([(0, .ref 26), (1, .int a1), (2, .int a2), (3, .int a3), (4, .int a4)], [.int (m.1 33 (Int32.toNatClampNeg ((a1 * 20) + a4)))], rf_MM w m)) (by decide +kernel) rfl (rf_in_of q1) ?_
    obtain ⟨x2, hx2, hg⟩ := rf_vi_some hg
    refine rf_vi_top hx2 ?_
    refine rf_seg C [(.istore 5, 2), (.aload 0, 1), (.iload 5, 2)] (pc' := 39) (S' := ([(5, .int x2), (0, .ref 26), (1, .int a1), (2, .int a2), (3, .int a3), (4, .int a4)], [.int x2, .ref 26], rf_MM w m)) (by decide +kernel) rfl trivial ?_
    obtain ⟨y3, m3, hc3, hg⟩ := rf_b_some hg
    refine rf_callv C rf_fit0 j_X3_isSeen (ci := 3) (As := [.int x2]) (rest := []) mw_X3_isSeen (c_X3_isSeen hc3) (by decide) rfl (by decide) lk_3_110 rfl rfl (Nat.le_of_ble_eq_true rfl) (by decide +kernel) ?_
    show rf_V 8 (rf_sh w) K 0 0 42 ([(5, .int x2), (0, .ref 26), (1, .int a1), (2, .int a2), (3, .int a3), (4, .int a4)], [.int y3], rf_MM w m3)
    refine rf_if_eq C 82 124 (by decide +kernel) (fun hc => ?_) (fun hc => ?_)
    · replace hg := (if_pos hc).symm.trans hg
      refine rf_few [1, 2, 3, 4, 5] rfl ?_
      exact s_X3_sortSeen_124 C hE hr5 a1 a2 a3 a4 m3 hg
    · replace hg := (if_neg hc).symm.trans hg
      refine rf_seg C [(.aload 0, 1), (.iload 5, 2), (.iconst 4, 1)] (pc' := 49) (S' := ([(5, .int x2), (0, .ref 26), (1, .int a1), (2, .int a2), (3, .int a3), (4, .int a4)], [.int 4, .int x2, .ref 26], rf_MM w m3)) (by decide +kernel) rfl trivial ?_
      obtain ⟨y4, m4, hc4, hg⟩ := rf_b_some hg
      refine rf_callv C rf_fit0 j_X3_factOf (ci := 3) (As := [.int x2, .int 4]) (rest := []) mw_X3_factOf (c_X3_factOf hc4) (by decide) rfl (by decide) lk_3_73 rfl rfl (Nat.le_of_ble_eq_true rfl) (by decide +kernel) ?_
      show rf_V 8 (rf_sh w) K 0 0 52 ([(5, .int x2), (0, .ref 26), (1, .int a1), (2, .int a2), (3, .int a3), (4, .int a4)], [.int y4], rf_MM w m4)
      refine rf_seg C [(.iload 2, 1)] (pc' := 53) (S' := ([(5, .int x2), (0, .ref 26), (1, .int a1), (2, .int a2), (3, .int a3), (4, .int a4)], [.int a2, .int y4], rf_MM w m4)) (by decide +kernel) rfl trivial ?_
      refine rf_icmp_le C 6 59 (by decide +kernel) (fun hc => ?_) (fun hc => ?_)
      · replace hg := (if_pos hc).symm.trans hg
        refine rf_seg C [(.aload 0, 1), (.iload 5, 2), (.iconst 1, 1)] (pc' := 63) (S' := ([(5, .int x2), (0, .ref 26), (1, .int a1), (2, .int a2), (3, .int a3), (4, .int a4)], [.int 1, .int x2, .ref 26], rf_MM w m4)) (by decide +kernel) rfl trivial ?_
        obtain ⟨y5, m5, hc5, hg⟩ := rf_b_some hg
        refine rf_callv C rf_fit0 j_X3_factOf (ci := 3) (As := [.int x2, .int 1]) (rest := []) mw_X3_factOf (c_X3_factOf hc5) (by decide) rfl (by decide) lk_3_73 rfl rfl (Nat.le_of_ble_eq_true rfl) (by decide +kernel) ?_
        show rf_V 8 (rf_sh w) K 0 0 66 ([(5, .int x2), (0, .ref 26), (1, .int a1), (2, .int a2), (3, .int a3), (4, .int a4)], [.int y5], rf_MM w m5)
        refine rf_seg C [(.istore 6, 2), (.iload 3, 1), (.istore 7, 2)] (pc' := 71) (S' := ([(7, .int a3), (6, .int y5), (5, .int x2), (0, .ref 26), (1, .int a1), (2, .int a2), (3, .int a3), (4, .int a4)], [], rf_MM w m5)) (by decide +kernel) rfl trivial ?_
        refine rf_few [3, 4, 5, 6, 7, 1, 0] rfl ?_
        exact s_X3_sortSeen_71 C hE hr5 rf_fuel a1 a2 a3 a4 y5 a3 m5 hg
      · replace hg := (if_neg hc).symm.trans hg
        refine rf_goto C 68 124 (by decide +kernel) ?_
        refine rf_few [1, 2, 3, 4, 5] rfl ?_
        exact s_X3_sortSeen_124 C hE hr5 a1 a2 a3 a4 m4 hg
theorem s_X3_sortSeen_5 {w : rf_w} {K : rf_K} {r : Int32 × rf_m} (C : rf_Ctx 3 cX3_sortSeen 8 3 (rf_sh w) K) (hE : rf_End (some .int) K (rf_sh w) 0 0 (some (.int r.1)) (rf_MM w r.2)) (n : Nat) : ∀ (a1 : Int32) (a2 : Int32) (a3 : Int32) (a4 : Int32) (m : rf_m), g_X3_sortSeen_5 w n a1 a2 a3 a4 m = some r → rf_V 8 (rf_sh w) K 0 0 5 ([(0, .ref 26), (1, .int a1), (2, .int a2), (3, .int a3), (4, .int a4)], [], rf_MM w m) := by
  induction n with
  | zero => intro a1 a2 a3 a4 m hg; cases hg
  | succ n ih => intro a1 a2 a3 a4 m hg; exact s_X3_sortSeen_5_b C hE ih a1 a2 a3 a4 m hg
theorem c_X3_sortSeen {w : rf_w} {m : rf_m} {a1 : Int32} {a2 : Int32} {r : Int32 × rf_m} (hg : g_X3_sortSeen w m a1 a2 = some r) : rf_Con j_X3_sortSeen 3 (rf_sh w) [.ref 26, .int a1, .int a2] (rf_MM w m) (some (.int r.1)) (rf_MM w r.2) := by
  refine rf_con j_X3_sortSeen 3 ⟨by decide +kernel, rfl, Nat.le_of_ble_eq_true rfl⟩ (fun K C hE => ?_)
  unfold g_X3_sortSeen at hg
  show rf_V 8 (rf_sh w) K 0 0 0 ([(0, .ref 26), (1, .int a1), (2, .int a2)], [], rf_MM w m)
  refine rf_seg C [(.iconst 0, 1), (.istore 3, 1), (.iconst 0, 1), (.istore 4, 2)] (pc' := 5) (S' := ([(4, .int 0), (3, .int 0), (0, .ref 26), (1, .int a1), (2, .int a2)], [], rf_MM w m)) (by decide +kernel) rfl trivial ?_
  refine rf_few [2, 3, 4, 1, 0] rfl ?_
  exact s_X3_sortSeen_5 C hE rf_fuel a1 a2 0 0 m hg
-- X3_recount
abbrev j_X3_recount : rf_J := (3, yX3_recount, cX3_recount, 12, none)
theorem mw_X3_recount : rf_mv j_X3_recount (rf_R 3) 2 := ⟨⟨rf_mem 25 (by decide +kernel), rf_mem 25 (by decide +kernel), rf_mem 0 (by decide +kernel), rf_mem 25 (by decide +kernel)⟩, by decide +kernel, by decide⟩
def g_X3_recount_267 (w : rf_w) (a1 : Int32) (a3 : Int32) (a4 : Int32) (a5 : Int32) (a6 : Int32) (s1 : Int32) (s2 : Int32) (m : rf_m) : Option (rf_m) := rf_g (rf_in s1 720) (rf_g (rf_in ((a1 * 9) + 4) 720) (rf_g (rf_in ((a1 * 9) + 5) 720) (rf_g (rf_in ((a1 * 9) + 7) 720) (rf_g (rf_in ((a1 * 9) + 8) 720) (rf_g (rf_in a1 80) (some (rf_i (rf_i (rf_i (rf_i (rf_i (rf_i m 34 (Int32.toNatClampNeg s1) s2) 34 (Int32.toNatClampNeg ((a1 * 9) + 4)) a5) 34 (Int32.toNatClampNeg ((a1 * 9) + 5)) a3) 34 (Int32.toNatClampNeg ((a1 * 9) + 7)) a4) 34 (Int32.toNatClampNeg ((a1 * 9) + 8)) a6) 40 (Int32.toNatClampNeg a1) (vp_nar .boolean 0))))))))
def g_X3_recount_244 (w : rf_w) (a1 : Int32) (a3 : Int32) (a4 : Int32) (a5 : Int32) (a6 : Int32) (a8 : Int32) (a9 : Int32) (s1 : Int32) (s2 : Int32) (m : rf_m) : Option (rf_m) := rf_g (rf_in s1 720) ((if a9 = 0 then g_X3_recount_267 w a1 a3 a4 a5 a6 ((a1 * 9) + 3) ((-2)) (rf_i m 34 (Int32.toNatClampNeg s1) s2) else g_X3_recount_267 w a1 a3 a4 a5 a6 ((a1 * 9) + 3) a8 (rf_i m 34 (Int32.toNatClampNeg s1) s2)))
def g_X3_recount_221 (w : rf_w) (a1 : Int32) (a3 : Int32) (a4 : Int32) (a5 : Int32) (a6 : Int32) (a7 : Int32) (a8 : Int32) (a9 : Int32) (s1 : Int32) (s2 : Int32) (m : rf_m) : Option (rf_m) := rf_g (rf_in s1 720) ((if a9 = 0 then g_X3_recount_244 w a1 a3 a4 a5 a6 a8 a9 ((a1 * 9) + 2) ((-2)) (rf_i m 34 (Int32.toNatClampNeg s1) s2) else g_X3_recount_244 w a1 a3 a4 a5 a6 a8 a9 ((a1 * 9) + 2) a7 (rf_i m 34 (Int32.toNatClampNeg s1) s2)))
def g_X3_recount_195 (w : rf_w) (a1 : Int32) (a3 : Int32) (a4 : Int32) (a5 : Int32) (a6 : Int32) (a7 : Int32) (a8 : Int32) (a9 : Int32) (s1 : Int32) (s2 : Int32) (m : rf_m) : Option (rf_m) := rf_g (rf_in s1 80) ((if a9 = 0 then g_X3_recount_221 w a1 a3 a4 a5 a6 a7 a8 a9 ((a1 * 9) + 1) ((-2)) (rf_i m 31 (Int32.toNatClampNeg s1) s2) else g_X3_recount_221 w a1 a3 a4 a5 a6 a7 a8 a9 ((a1 * 9) + 1) (a8 - a7) (rf_i m 31 (Int32.toNatClampNeg s1) s2)))
def g_X3_recount_173 (w : rf_w) (a1 : Int32) (a3 : Int32) (a4 : Int32) (a5 : Int32) (a6 : Int32) (a7 : Int32) (a8 : Int32) (s0 : Int32) (m : rf_m) : Option (rf_m) := (if s0 = 0 then g_X3_recount_195 w a1 a3 a4 a5 a6 a7 a8 s0 a1 ((-2)) m else rf_g (rf_nz a5) (g_X3_recount_195 w a1 a3 a4 a5 a6 a7 a8 s0 a1 (a6 / a5) m))
def g_X3_recount_157 (w : rf_w) (rec77 : Int32 → Int32 → Int32 → Int32 → Int32 → Int32 → Int32 → Int32 → Int32 → rf_m → Option (rf_m)) (a1 : Int32) (a2 : Int32) (a3 : Int32) (a4 : Int32) (a5 : Int32) (a6 : Int32) (a7 : Int32) (a8 : Int32) (a9 : Int32) (m : rf_m) : Option (rf_m) := rec77 a1 a2 a3 a4 a5 a6 a7 a8 (a9 + 1) m
def g_X3_recount_77_b (w : rf_w) (rec77 : Int32 → Int32 → Int32 → Int32 → Int32 → Int32 → Int32 → Int32 → Int32 → rf_m → Option (rf_m)) (a1 : Int32) (a2 : Int32) (a3 : Int32) (a4 : Int32) (a5 : Int32) (a6 : Int32) (a7 : Int32) (a8 : Int32) (a9 : Int32) (m : rf_m) : Option (rf_m) := rf_g (rf_in ((a1 * 9) + 6) 720) ((if (m.1 34 (Int32.toNatClampNeg ((a1 * 9) + 6))) ≤ a9 then (if a5 ≤ 0 then g_X3_recount_173 w a1 a3 a4 a5 a6 a7 a8 0 m else g_X3_recount_173 w a1 a3 a4 a5 a6 a7 a8 1 m) else rf_g (rf_in ((a1 * 20) + a9) 1600) (rf_vi (m.1 33 (Int32.toNatClampNeg ((a1 * 20) + a9))) fun x2 => rf_b (g_X3_judge w m x2 a4 a2) fun y3 m3 => (if y3 = 0 then g_X3_recount_157 w rec77 a1 a2 a3 a4 a5 a6 a7 a8 a9 m3 else rf_b (g_X3_factOf w m3 x2 1) fun y4 m4 => rf_b (g_min w m4 a7 y4) fun y5 m5 => rf_b (g_max w m5 a8 y4) fun y6 m6 => g_X3_recount_157 w rec77 a1 a2 a3 a4 (a5 + 1) (a6 + y4) y5 y6 a9 m6))))
def g_X3_recount_77 (w : rf_w) : Nat → Int32 → Int32 → Int32 → Int32 → Int32 → Int32 → Int32 → Int32 → Int32 → rf_m → Option (rf_m)
  | 0, _, _, _, _, _, _, _, _, _, _ => none
  | n + 1, a1, a2, a3, a4, a5, a6, a7, a8, a9, m => g_X3_recount_77_b w (g_X3_recount_77 w n) a1 a2 a3 a4 a5 a6 a7 a8 a9 m
def g_X3_recount_26 (w : rf_w) (a1 : Int32) (a2 : Int32) (a3 : Int32) (s0 : Int32) (m : rf_m) : Option (rf_m) := rf_bv (g_X9_clearFacts w m) fun m0 => rf_g (rf_in a1 80) (g_X3_recount_77 w rf_fuel a1 a2 a3 s0 0 0 12960000 ((-1)) 0 (rf_i (rf_i m0 18 (Int32.toNatClampNeg 3) a3) 18 (Int32.toNatClampNeg 6) ((rf_i m0 18 (Int32.toNatClampNeg 3) a3).1 28 (Int32.toNatClampNeg a1))))
def g_X3_recount (w : rf_w) (m : rf_m) (a1 : Int32) (a2 : Int32) : Option (rf_m) := rf_b (g_X3_sortSeen w m a1 a2) fun y0 m0 => (if y0 = 0 then g_X3_recount_26 w a1 a2 y0 ((-2)) m0 else rf_g (rf_in ((y0 - 1) / 2) 20) (g_X3_recount_26 w a1 a2 y0 (m0.1 35 (Int32.toNatClampNeg ((y0 - 1) / 2))) m0))
theorem s_X3_recount_267 {w : rf_w} {K : rf_K} {r : rf_m} (C : rf_Ctx 3 cX3_recount 12 6 (rf_sh w) K) (hE : rf_End none K (rf_sh w) 0 0 none (rf_MM w r)) (a1 : Int32) (a3 : Int32) (a4 : Int32) (a5 : Int32) (a6 : Int32) (s1 : Int32) (s2 : Int32) (m : rf_m) (hg : g_X3_recount_267 w a1 a3 a4 a5 a6 s1 s2 m = some r) : rf_V 12 (rf_sh w) K 0 0 267 ([(0, .ref 26), (1, .int a1), (3, .int a3), (4, .int a4), (5, .int a5), (6, .int a6)], [.int s2, .int s1, .ref 34], rf_MM w m) := by
  unfold g_X3_recount_267 at hg
  obtain ⟨q0, hg⟩ := rf_g_some hg
  obtain ⟨q1, hg⟩ := rf_g_some hg
  obtain ⟨q2, hg⟩ := rf_g_some hg
  obtain ⟨q3, hg⟩ := rf_g_some hg
  obtain ⟨q4, hg⟩ := rf_g_some hg
  obtain ⟨q5, hg⟩ := rf_g_some hg
  refine rf_seg C [(.iastore, 1), (.aload 0, 1), (.invokeinterface 3 11, 3), (.iload 1, 1), (.iconst 9, 2), (.imul, 1), (.iconst 4, 1), (.iadd, 1), (.iload 5, 2), (.iastore, 1), (.aload 0, 1), (.invokeinterface 3 11, 3), (.iload 1, 1), (.iconst 9, 2), (.imul, 1), (.iconst 5, 1), (.iadd, 1), (.iload 3, 1), (.iastore, 1), (.aload 0, 1), (.invokeinterface 3 11, 3), (.iload 1, 1), (.iconst 9, 2), (.imul, 1), (.iconst 7, 2), (.iadd, 1), (.iload 4, 2), (.iastore, 1), (.aload 0, 1), (.invokeinterface 3 11, 3), (.iload 1, 1), (.iconst 9, 2), (.imul, 1), (.iconst 8, 2), (.iadd, 1), (.iload 6, 2), (.iastore, 1), (.aload 0, 1), (.invokeinterface 3 18, 3), (.iload 1, 1), (.iconst 0, 1), (.bastore, 1)] (pc' := 328) (S' := ([(0, .ref 26), (1, .int a1), (3, .int a3), (4, .int a4), (5, .int a5), (6, .int a6)], [], rf_MM w (rf_i (rf_i (rf_i (rf_i (rf_i (rf_i m 34 (Int32.toNatClampNeg s1) s2) 34 (Int32.toNatClampNeg ((a1 * 9) + 4)) a5) 34 (Int32.toNatClampNeg ((a1 * 9) + 5)) a3) 34 (Int32.toNatClampNeg ((a1 * 9) + 7)) a4) 34 (Int32.toNatClampNeg ((a1 * 9) + 8)) a6) 40 (Int32.toNatClampNeg a1) (vp_nar .boolean 0)))) (by decide +kernel) rfl (by exact ⟨(rf_in_of q0), (rf_in_of q1), (rf_in_of q2), (rf_in_of q3), (rf_in_of q4), (rf_in_of q5)⟩) ?_
  obtain rfl := Option.some.inj hg
  exact rf_vret C hE (by decide +kernel)
theorem s_X3_recount_244 {w : rf_w} {K : rf_K} {r : rf_m} (C : rf_Ctx 3 cX3_recount 12 6 (rf_sh w) K) (hE : rf_End none K (rf_sh w) 0 0 none (rf_MM w r)) (a1 : Int32) (a3 : Int32) (a4 : Int32) (a5 : Int32) (a6 : Int32) (a8 : Int32) (a9 : Int32) (s1 : Int32) (s2 : Int32) (m : rf_m) (hg : g_X3_recount_244 w a1 a3 a4 a5 a6 a8 a9 s1 s2 m = some r) : rf_V 12 (rf_sh w) K 0 0 244 ([(0, .ref 26), (1, .int a1), (3, .int a3), (4, .int a4), (5, .int a5), (6, .int a6), (8, .int a8), (9, .int a9)], [.int s2, .int s1, .ref 34], rf_MM w m) := by
  unfold g_X3_recount_244 at hg
  obtain ⟨q0, hg⟩ := rf_g_some hg
  refine rf_seg C [(.iastore, 1), (.aload 0, 1), (.invokeinterface 3 11, 3), (.iload 1, 1), (.iconst 9, 2), (.imul, 1), (.iconst 3, 1), (.iadd, 1), (.iload 9, 2)] (pc' := 257) (S' := ([(0, .ref 26), (1, .int a1), (3, .int a3), (4, .int a4), (5, .int a5), (6, .int a6), (8, .int a8), (9, .int a9)], [.int a9, .int ((a1 * 9) + 3), .ref 34], rf_MM w (rf_i m 34 (Int32.toNatClampNeg s1) s2))) (by decide +kernel) rfl (rf_in_of q0) ?_
  refine rf_if_eq C 8 265 (by decide +kernel) (fun hc => ?_) (fun hc => ?_)
  · replace hg := (if_pos hc).symm.trans hg
    refine rf_seg C [(.iconst (-2), 2)] (pc' := 267) (S' := ([(0, .ref 26), (1, .int a1), (3, .int a3), (4, .int a4), (5, .int a5), (6, .int a6), (8, .int a8), (9, .int a9)], [.int ((-2)), .int ((a1 * 9) + 3), .ref 34], rf_MM w (rf_i m 34 (Int32.toNatClampNeg s1) s2))) (by decide +kernel) rfl trivial ?_
    refine rf_few [0, 1, 2, 3, 4, 5] rfl ?_
    exact s_X3_recount_267 C hE a1 a3 a4 a5 a6 ((a1 * 9) + 3) ((-2)) (rf_i m 34 (Int32.toNatClampNeg s1) s2) hg
  · replace hg := (if_neg hc).symm.trans hg
    refine rf_seg C [(.iload 8, 2)] (pc' := 262) (S' := ([(0, .ref 26), (1, .int a1), (3, .int a3), (4, .int a4), (5, .int a5), (6, .int a6), (8, .int a8), (9, .int a9)], [.int a8, .int ((a1 * 9) + 3), .ref 34], rf_MM w (rf_i m 34 (Int32.toNatClampNeg s1) s2))) (by decide +kernel) rfl trivial ?_
    refine rf_goto C 5 267 (by decide +kernel) ?_
    refine rf_few [0, 1, 2, 3, 4, 5] rfl ?_
    exact s_X3_recount_267 C hE a1 a3 a4 a5 a6 ((a1 * 9) + 3) a8 (rf_i m 34 (Int32.toNatClampNeg s1) s2) hg
theorem s_X3_recount_221 {w : rf_w} {K : rf_K} {r : rf_m} (C : rf_Ctx 3 cX3_recount 12 6 (rf_sh w) K) (hE : rf_End none K (rf_sh w) 0 0 none (rf_MM w r)) (a1 : Int32) (a3 : Int32) (a4 : Int32) (a5 : Int32) (a6 : Int32) (a7 : Int32) (a8 : Int32) (a9 : Int32) (s1 : Int32) (s2 : Int32) (m : rf_m) (hg : g_X3_recount_221 w a1 a3 a4 a5 a6 a7 a8 a9 s1 s2 m = some r) : rf_V 12 (rf_sh w) K 0 0 221 ([(0, .ref 26), (1, .int a1), (3, .int a3), (4, .int a4), (5, .int a5), (6, .int a6), (7, .int a7), (8, .int a8), (9, .int a9)], [.int s2, .int s1, .ref 34], rf_MM w m) := by
  unfold g_X3_recount_221 at hg
  obtain ⟨q0, hg⟩ := rf_g_some hg
  refine rf_seg C [(.iastore, 1), (.aload 0, 1), (.invokeinterface 3 11, 3), (.iload 1, 1), (.iconst 9, 2), (.imul, 1), (.iconst 2, 1), (.iadd, 1), (.iload 9, 2)] (pc' := 234) (S' := ([(0, .ref 26), (1, .int a1), (3, .int a3), (4, .int a4), (5, .int a5), (6, .int a6), (7, .int a7), (8, .int a8), (9, .int a9)], [.int a9, .int ((a1 * 9) + 2), .ref 34], rf_MM w (rf_i m 34 (Int32.toNatClampNeg s1) s2))) (by decide +kernel) rfl (rf_in_of q0) ?_
  refine rf_if_eq C 8 242 (by decide +kernel) (fun hc => ?_) (fun hc => ?_)
  · replace hg := (if_pos hc).symm.trans hg
    refine rf_seg C [(.iconst (-2), 2)] (pc' := 244) (S' := ([(0, .ref 26), (1, .int a1), (3, .int a3), (4, .int a4), (5, .int a5), (6, .int a6), (7, .int a7), (8, .int a8), (9, .int a9)], [.int ((-2)), .int ((a1 * 9) + 2), .ref 34], rf_MM w (rf_i m 34 (Int32.toNatClampNeg s1) s2))) (by decide +kernel) rfl trivial ?_
    refine rf_few [0, 1, 2, 3, 4, 5, 7, 8] rfl ?_
    exact s_X3_recount_244 C hE a1 a3 a4 a5 a6 a8 a9 ((a1 * 9) + 2) ((-2)) (rf_i m 34 (Int32.toNatClampNeg s1) s2) hg
  · replace hg := (if_neg hc).symm.trans hg
    refine rf_seg C [(.iload 7, 2)] (pc' := 239) (S' := ([(0, .ref 26), (1, .int a1), (3, .int a3), (4, .int a4), (5, .int a5), (6, .int a6), (7, .int a7), (8, .int a8), (9, .int a9)], [.int a7, .int ((a1 * 9) + 2), .ref 34], rf_MM w (rf_i m 34 (Int32.toNatClampNeg s1) s2))) (by decide +kernel) rfl trivial ?_
    refine rf_goto C 5 244 (by decide +kernel) ?_
    refine rf_few [0, 1, 2, 3, 4, 5, 7, 8] rfl ?_
    exact s_X3_recount_244 C hE a1 a3 a4 a5 a6 a8 a9 ((a1 * 9) + 2) a7 (rf_i m 34 (Int32.toNatClampNeg s1) s2) hg
theorem s_X3_recount_195 {w : rf_w} {K : rf_K} {r : rf_m} (C : rf_Ctx 3 cX3_recount 12 6 (rf_sh w) K) (hE : rf_End none K (rf_sh w) 0 0 none (rf_MM w r)) (a1 : Int32) (a3 : Int32) (a4 : Int32) (a5 : Int32) (a6 : Int32) (a7 : Int32) (a8 : Int32) (a9 : Int32) (s1 : Int32) (s2 : Int32) (m : rf_m) (hg : g_X3_recount_195 w a1 a3 a4 a5 a6 a7 a8 a9 s1 s2 m = some r) : rf_V 12 (rf_sh w) K 0 0 195 ([(0, .ref 26), (1, .int a1), (3, .int a3), (4, .int a4), (5, .int a5), (6, .int a6), (7, .int a7), (8, .int a8), (9, .int a9)], [.int s2, .int s1, .ref 31], rf_MM w m) := by
  unfold g_X3_recount_195 at hg
  obtain ⟨q0, hg⟩ := rf_g_some hg
  refine rf_seg C [(.iastore, 1), (.aload 0, 1), (.invokeinterface 3 11, 3), (.iload 1, 1), (.iconst 9, 2), (.imul, 1), (.iconst 1, 1), (.iadd, 1), (.iload 9, 2)] (pc' := 208) (S' := ([(0, .ref 26), (1, .int a1), (3, .int a3), (4, .int a4), (5, .int a5), (6, .int a6), (7, .int a7), (8, .int a8), (9, .int a9)], [.int a9, .int ((a1 * 9) + 1), .ref 34], rf_MM w (rf_i m 31 (Int32.toNatClampNeg s1) s2))) (by decide +kernel) rfl (rf_in_of q0) ?_
  refine rf_if_eq C 11 219 (by decide +kernel) (fun hc => ?_) (fun hc => ?_)
  · replace hg := (if_pos hc).symm.trans hg
    refine rf_seg C [(.iconst (-2), 2)] (pc' := 221) (S' := ([(0, .ref 26), (1, .int a1), (3, .int a3), (4, .int a4), (5, .int a5), (6, .int a6), (7, .int a7), (8, .int a8), (9, .int a9)], [.int ((-2)), .int ((a1 * 9) + 1), .ref 34], rf_MM w (rf_i m 31 (Int32.toNatClampNeg s1) s2))) (by decide +kernel) rfl trivial ?_
    refine rf_few [0, 1, 2, 3, 4, 5, 6, 7, 8] rfl ?_
    exact s_X3_recount_221 C hE a1 a3 a4 a5 a6 a7 a8 a9 ((a1 * 9) + 1) ((-2)) (rf_i m 31 (Int32.toNatClampNeg s1) s2) hg
  · replace hg := (if_neg hc).symm.trans hg
    refine rf_seg C [(.iload 8, 2), (.iload 7, 2), (.isub, 1)] (pc' := 216) (S' := ([(0, .ref 26), (1, .int a1), (3, .int a3), (4, .int a4), (5, .int a5), (6, .int a6), (7, .int a7), (8, .int a8), (9, .int a9)], [.int (a8 - a7), .int ((a1 * 9) + 1), .ref 34], rf_MM w (rf_i m 31 (Int32.toNatClampNeg s1) s2))) (by decide +kernel) rfl trivial ?_
    refine rf_goto C 5 221 (by decide +kernel) ?_
    refine rf_few [0, 1, 2, 3, 4, 5, 6, 7, 8] rfl ?_
    exact s_X3_recount_221 C hE a1 a3 a4 a5 a6 a7 a8 a9 ((a1 * 9) + 1) (a8 - a7) (rf_i m 31 (Int32.toNatClampNeg s1) s2) hg
theorem s_X3_recount_173 {w : rf_w} {K : rf_K} {r : rf_m} (C : rf_Ctx 3 cX3_recount 12 6 (rf_sh w) K) (hE : rf_End none K (rf_sh w) 0 0 none (rf_MM w r)) (a1 : Int32) (a3 : Int32) (a4 : Int32) (a5 : Int32) (a6 : Int32) (a7 : Int32) (a8 : Int32) (s0 : Int32) (m : rf_m) (hg : g_X3_recount_173 w a1 a3 a4 a5 a6 a7 a8 s0 m = some r) : rf_V 12 (rf_sh w) K 0 0 173 ([(0, .ref 26), (1, .int a1), (3, .int a3), (4, .int a4), (5, .int a5), (6, .int a6), (7, .int a7), (8, .int a8)], [.int s0], rf_MM w m) := by
  unfold g_X3_recount_173 at hg
  refine rf_seg C [(.istore 9, 2), (.aload 0, 1), (.invokeinterface 3 4, 3), (.iload 1, 1), (.iload 9, 2)] (pc' := 182) (S' := ([(9, .int s0), (0, .ref 26), (1, .int a1), (3, .int a3), (4, .int a4), (5, .int a5), (6, .int a6), (7, .int a7), (8, .int a8)], [.int s0, .int a1, .ref 31], rf_MM w m)) (by decide +kernel) rfl trivial ?_
  refine rf_if_eq C 11 193 (by decide +kernel) (fun hc => ?_) (fun hc => ?_)
  · replace hg := (if_pos hc).symm.trans hg
    refine rf_seg C [(.iconst (-2), 2)] (pc' := 195) (S' := ([(9, .int s0), (0, .ref 26), (1, .int a1), (3, .int a3), (4, .int a4), (5, .int a5), (6, .int a6), (7, .int a7), (8, .int a8)], [.int ((-2)), .int a1, .ref 31], rf_MM w m)) (by decide +kernel) rfl trivial ?_
    refine rf_few [1, 2, 3, 4, 5, 6, 7, 8, 0] rfl ?_
    exact s_X3_recount_195 C hE a1 a3 a4 a5 a6 a7 a8 s0 a1 ((-2)) m hg
  · replace hg := (if_neg hc).symm.trans hg
    obtain ⟨q0, hg⟩ := rf_g_some hg
    refine rf_seg C [(.iload 6, 2), (.iload 5, 2), (.idiv, 1)] (pc' := 190) (S' := ([(9, .int s0), (0, .ref 26), (1, .int a1), (3, .int a3), (4, .int a4), (5, .int a5), (6, .int a6), (7, .int a7), (8, .int a8)], [.int (a6 / a5), .int a1, .ref 31], rf_MM w m)) (by decide +kernel) rfl (rf_nz_of q0) ?_
    refine rf_goto C 5 195 (by decide +kernel) ?_
    refine rf_few [1, 2, 3, 4, 5, 6, 7, 8, 0] rfl ?_
    exact s_X3_recount_195 C hE a1 a3 a4 a5 a6 a7 a8 s0 a1 (a6 / a5) m hg
theorem s_X3_recount_157 {w : rf_w} {K : rf_K} {r : rf_m} (C : rf_Ctx 3 cX3_recount 12 6 (rf_sh w) K) (hE : rf_End none K (rf_sh w) 0 0 none (rf_MM w r)) {rec77 : Int32 → Int32 → Int32 → Int32 → Int32 → Int32 → Int32 → Int32 → Int32 → rf_m → Option (rf_m)} (hr77 : ∀ (a1 : Int32) (a2 : Int32) (a3 : Int32) (a4 : Int32) (a5 : Int32) (a6 : Int32) (a7 : Int32) (a8 : Int32) (a9 : Int32) (m : rf_m), rec77 a1 a2 a3 a4 a5 a6 a7 a8 a9 m = some r → rf_V 12 (rf_sh w) K 0 0 77 ([(0, .ref 26), (1, .int a1), (2, .int a2), (3, .int a3), (4, .int a4), (5, .int a5), (6, .int a6), (7, .int a7), (8, .int a8), (9, .int a9)], [], rf_MM w m)) (a1 : Int32) (a2 : Int32) (a3 : Int32) (a4 : Int32) (a5 : Int32) (a6 : Int32) (a7 : Int32) (a8 : Int32) (a9 : Int32) (m : rf_m) (hg : g_X3_recount_157 w rec77 a1 a2 a3 a4 a5 a6 a7 a8 a9 m = some r) : rf_V 12 (rf_sh w) K 0 0 157 ([(0, .ref 26), (1, .int a1), (2, .int a2), (3, .int a3), (4, .int a4), (5, .int a5), (6, .int a6), (7, .int a7), (8, .int a8), (9, .int a9)], [], rf_MM w m) := by
  unfold g_X3_recount_157 at hg
  refine rf_seg C [(.iinc 9 1, 3)] (pc' := 160) (S' := ([(9, .int (a9 + 1)), (0, .ref 26), (1, .int a1), (2, .int a2), (3, .int a3), (4, .int a4), (5, .int a5), (6, .int a6), (7, .int a7), (8, .int a8)], [], rf_MM w m)) (by decide +kernel) rfl trivial ?_
  refine rf_goto C (-83) 77 (by decide +kernel) ?_
  refine rf_few [1, 2, 3, 4, 5, 6, 7, 8, 9, 0] rfl ?_
  exact hr77 a1 a2 a3 a4 a5 a6 a7 a8 (a9 + 1) m hg
theorem s_X3_recount_77_b {w : rf_w} {K : rf_K} {r : rf_m} (C : rf_Ctx 3 cX3_recount 12 6 (rf_sh w) K) (hE : rf_End none K (rf_sh w) 0 0 none (rf_MM w r)) {rec77 : Int32 → Int32 → Int32 → Int32 → Int32 → Int32 → Int32 → Int32 → Int32 → rf_m → Option (rf_m)} (hr77 : ∀ (a1 : Int32) (a2 : Int32) (a3 : Int32) (a4 : Int32) (a5 : Int32) (a6 : Int32) (a7 : Int32) (a8 : Int32) (a9 : Int32) (m : rf_m), rec77 a1 a2 a3 a4 a5 a6 a7 a8 a9 m = some r → rf_V 12 (rf_sh w) K 0 0 77 ([(0, .ref 26), (1, .int a1), (2, .int a2), (3, .int a3), (4, .int a4), (5, .int a5), (6, .int a6), (7, .int a7), (8, .int a8), (9, .int a9)], [], rf_MM w m)) (a1 : Int32) (a2 : Int32) (a3 : Int32) (a4 : Int32) (a5 : Int32) (a6 : Int32) (a7 : Int32) (a8 : Int32) (a9 : Int32) (m : rf_m) (hg : g_X3_recount_77_b w rec77 a1 a2 a3 a4 a5 a6 a7 a8 a9 m = some r) : rf_V 12 (rf_sh w) K 0 0 77 ([(0, .ref 26), (1, .int a1), (2, .int a2), (3, .int a3), (4, .int a4), (5, .int a5), (6, .int a6), (7, .int a7), (8, .int a8), (9, .int a9)], [], rf_MM w m) := by
  unfold g_X3_recount_77_b at hg
  obtain ⟨q0, hg⟩ := rf_g_some hg
  refine rf_seg C [(.iload 9, 2), (.aload 0, 1), (.invokeinterface 3 11, 3), (.iload 1, 1), (.iconst 9, 2), (.imul, 1), (.iconst 6, 2), (.iadd, 1), (.iaload, 1)] (pc' := 91) (S' := ([(0, .ref 26), (1, .int a1), (2, .int a2), (3, .int a3), (4, .int a4), (5, .int a5), (6, .int a6), (7, .int a7), (8, .int a8), (9, .int a9)], [.int (m.1 34 (Int32.toNatClampNeg ((a1 * 9) + 6))), .int a9], rf_MM w m)) (by decide +kernel) rfl (rf_in_of q0) ?_
  refine rf_icmp_ge C 72 163 (by decide +kernel) (fun hc => ?_) (fun hc => ?_)
  · replace hg := (if_pos hc).symm.trans hg
    refine rf_seg C [(.iload 5, 2)] (pc' := 165) (S' := ([(0, .ref 26), (1, .int a1), (2, .int a2), (3, .int a3), (4, .int a4), (5, .int a5), (6, .int a6), (7, .int a7), (8, .int a8), (9, .int a9)], [.int a5], rf_MM w m)) (by decide +kernel) rfl trivial ?_
    refine rf_if_le C 7 172 (by decide +kernel) (fun hc => ?_) (fun hc => ?_)
    · replace hg := (if_pos hc).symm.trans hg
      refine rf_seg C [(.iconst 0, 1)] (pc' := 173) (S' := ([(0, .ref 26), (1, .int a1), (2, .int a2), (3, .int a3), (4, .int a4), (5, .int a5), (6, .int a6), (7, .int a7), (8, .int a8), (9, .int a9)], [.int 0], rf_MM w m)) (by decide +kernel) rfl trivial ?_
      refine rf_few [0, 1, 3, 4, 5, 6, 7, 8] rfl ?_
      exact s_X3_recount_173 C hE a1 a3 a4 a5 a6 a7 a8 0 m hg
    · replace hg := (if_neg hc).symm.trans hg
      refine rf_seg C [(.iconst 1, 1)] (pc' := 169) (S' := ([(0, .ref 26), (1, .int a1), (2, .int a2), (3, .int a3), (4, .int a4), (5, .int a5), (6, .int a6), (7, .int a7), (8, .int a8), (9, .int a9)], [.int 1], rf_MM w m)) (by decide +kernel) rfl trivial ?_
      refine rf_goto C 4 173 (by decide +kernel) ?_
      refine rf_few [0, 1, 3, 4, 5, 6, 7, 8] rfl ?_
      exact s_X3_recount_173 C hE a1 a3 a4 a5 a6 a7 a8 1 m hg
  · replace hg := (if_neg hc).symm.trans hg
    obtain ⟨q1, hg⟩ := rf_g_some hg
    refine rf_seg C [(.aload 0, 1), (.invokeinterface 3 10, 3), (.iload 1, 1), (.iconst 20, 2), (.imul, 1), (.iload 9, 2), (.iadd, 1), (.iaload, 1)] (pc' := 106) (S' := ([(0, .ref 26), (1, .int a1), (2, .int a2), (3, .int a3), (4, .int a4), (5, .int a5), (6, .int a6), (7, .int a7), (8, .int a8), (9, .int a9)], [.int (m.1 33 (Int32.toNatClampNeg ((a1 * 20) + a9)))], rf_MM w m)) (by decide +kernel) rfl (rf_in_of q1) ?_
    obtain ⟨x2, hx2, hg⟩ := rf_vi_some hg
    refine rf_vi_top hx2 ?_
    refine rf_seg C [(.istore 10, 2), (.aload 0, 1), (.iload 10, 2), (.iload 4, 2), (.iload 2, 1)] (pc' := 114) (S' := ([(10, .int x2), (0, .ref 26), (1, .int a1), (2, .int a2), (3, .int a3), (4, .int a4), (5, .int a5), (6, .int a6), (7, .int a7), (8, .int a8), (9, .int a9)], [.int a2, .int a4, .int x2, .ref 26], rf_MM w m)) (by decide +kernel) rfl trivial ?_
    obtain ⟨y3, m3, hc3, hg⟩ := rf_b_some hg
    refine rf_callv C rf_fit0 j_X3_judge (ci := 3) (As := [.int x2, .int a4, .int a2]) (rest := []) mw_X3_judge (c_X3_judge hc3) (by decide) rfl (by decide) lk_3_98 rfl rfl (Nat.le_of_ble_eq_true rfl) (by decide +kernel) ?_
    show rf_V 12 (rf_sh w) K 0 0 117 ([(10, .int x2), (0, .ref 26), (1, .int a1), (2, .int a2), (3, .int a3), (4, .int a4), (5, .int a5), (6, .int a6), (7, .int a7), (8, .int a8), (9, .int a9)], [.int y3], rf_MM w m3)
    refine rf_if_eq C 40 157 (by decide +kernel) (fun hc => ?_) (fun hc => ?_)
    · replace hg := (if_pos hc).symm.trans hg
      refine rf_few [1, 2, 3, 4, 5, 6, 7, 8, 9, 10] rfl ?_
      exact s_X3_recount_157 C hE hr77 a1 a2 a3 a4 a5 a6 a7 a8 a9 m3 hg
    · replace hg := (if_neg hc).symm.trans hg
      refine rf_seg C [(.aload 0, 1), (.iload 10, 2), (.iconst 1, 1)] (pc' := 124) (S' := ([(10, .int x2), (0, .ref 26), (1, .int a1), (2, .int a2), (3, .int a3), (4, .int a4), (5, .int a5), (6, .int a6), (7, .int a7), (8, .int a8), (9, .int a9)], [.int 1, .int x2, .ref 26], rf_MM w m3)) (by decide +kernel) rfl trivial ?_
      obtain ⟨y4, m4, hc4, hg⟩ := rf_b_some hg
      refine rf_callv C rf_fit0 j_X3_factOf (ci := 3) (As := [.int x2, .int 1]) (rest := []) mw_X3_factOf (c_X3_factOf hc4) (by decide) rfl (by decide) lk_3_73 rfl rfl (Nat.le_of_ble_eq_true rfl) (by decide +kernel) ?_
      show rf_V 12 (rf_sh w) K 0 0 127 ([(10, .int x2), (0, .ref 26), (1, .int a1), (2, .int a2), (3, .int a3), (4, .int a4), (5, .int a5), (6, .int a6), (7, .int a7), (8, .int a8), (9, .int a9)], [.int y4], rf_MM w m4)
      refine rf_seg C [(.istore 11, 2), (.iinc 5 1, 3), (.iload 6, 2), (.iload 11, 2), (.iadd, 1), (.istore 6, 2), (.iload 7, 2), (.iload 11, 2)] (pc' := 143) (S' := ([(6, .int (a6 + y4)), (5, .int (a5 + 1)), (11, .int y4), (10, .int x2), (0, .ref 26), (1, .int a1), (2, .int a2), (3, .int a3), (4, .int a4), (7, .int a7), (8, .int a8), (9, .int a9)], [.int y4, .int a7], rf_MM w m4)) (by decide +kernel) rfl trivial ?_
      obtain ⟨y5, m5, hc5, hg⟩ := rf_b_some hg
      refine rf_calls C rf_fit0 j_min (As := [.int a7, .int y4]) (rest := []) mw_min (c_min hc5) (by decide) lk_3_102 rfl rfl (Nat.le_of_ble_eq_true rfl) (by decide +kernel) ?_
      show rf_V 12 (rf_sh w) K 0 0 146 ([(6, .int (a6 + y4)), (5, .int (a5 + 1)), (11, .int y4), (10, .int x2), (0, .ref 26), (1, .int a1), (2, .int a2), (3, .int a3), (4, .int a4), (7, .int a7), (8, .int a8), (9, .int a9)], [.int y5], rf_MM w m5)
      refine rf_seg C [(.istore 7, 2), (.iload 8, 2), (.iload 11, 2)] (pc' := 152) (S' := ([(7, .int y5), (6, .int (a6 + y4)), (5, .int (a5 + 1)), (11, .int y4), (10, .int x2), (0, .ref 26), (1, .int a1), (2, .int a2), (3, .int a3), (4, .int a4), (8, .int a8), (9, .int a9)], [.int y4, .int a8], rf_MM w m5)) (by decide +kernel) rfl trivial ?_
      obtain ⟨y6, m6, hc6, hg⟩ := rf_b_some hg
      refine rf_calls C rf_fit0 j_max (As := [.int a8, .int y4]) (rest := []) mw_max (c_max hc6) (by decide) lk_3_107 rfl rfl (Nat.le_of_ble_eq_true rfl) (by decide +kernel) ?_
      show rf_V 12 (rf_sh w) K 0 0 155 ([(7, .int y5), (6, .int (a6 + y4)), (5, .int (a5 + 1)), (11, .int y4), (10, .int x2), (0, .ref 26), (1, .int a1), (2, .int a2), (3, .int a3), (4, .int a4), (8, .int a8), (9, .int a9)], [.int y6], rf_MM w m6)
      refine rf_seg C [(.istore 8, 2)] (pc' := 157) (S' := ([(8, .int y6), (7, .int y5), (6, .int (a6 + y4)), (5, .int (a5 + 1)), (11, .int y4), (10, .int x2), (0, .ref 26), (1, .int a1), (2, .int a2), (3, .int a3), (4, .int a4), (9, .int a9)], [], rf_MM w m6)) (by decide +kernel) rfl trivial ?_
      refine rf_few [6, 7, 8, 9, 10, 3, 2, 1, 0, 11] rfl ?_
      exact s_X3_recount_157 C hE hr77 a1 a2 a3 a4 (a5 + 1) (a6 + y4) y5 y6 a9 m6 hg
theorem s_X3_recount_77 {w : rf_w} {K : rf_K} {r : rf_m} (C : rf_Ctx 3 cX3_recount 12 6 (rf_sh w) K) (hE : rf_End none K (rf_sh w) 0 0 none (rf_MM w r)) (n : Nat) : ∀ (a1 : Int32) (a2 : Int32) (a3 : Int32) (a4 : Int32) (a5 : Int32) (a6 : Int32) (a7 : Int32) (a8 : Int32) (a9 : Int32) (m : rf_m), g_X3_recount_77 w n a1 a2 a3 a4 a5 a6 a7 a8 a9 m = some r → rf_V 12 (rf_sh w) K 0 0 77 ([(0, .ref 26), (1, .int a1), (2, .int a2), (3, .int a3), (4, .int a4), (5, .int a5), (6, .int a6), (7, .int a7), (8, .int a8), (9, .int a9)], [], rf_MM w m) := by
  induction n with
  | zero => intro a1 a2 a3 a4 a5 a6 a7 a8 a9 m hg; cases hg
  | succ n ih => intro a1 a2 a3 a4 a5 a6 a7 a8 a9 m hg; exact s_X3_recount_77_b C hE ih a1 a2 a3 a4 a5 a6 a7 a8 a9 m hg
theorem s_X3_recount_26 {w : rf_w} {K : rf_K} {r : rf_m} (C : rf_Ctx 3 cX3_recount 12 6 (rf_sh w) K) (hE : rf_End none K (rf_sh w) 0 0 none (rf_MM w r)) (a1 : Int32) (a2 : Int32) (a3 : Int32) (s0 : Int32) (m : rf_m) (hg : g_X3_recount_26 w a1 a2 a3 s0 m = some r) : rf_V 12 (rf_sh w) K 0 0 26 ([(0, .ref 26), (1, .int a1), (2, .int a2), (3, .int a3)], [.int s0], rf_MM w m) := by
  unfold g_X3_recount_26 at hg
  refine rf_seg C [(.istore 4, 2), (.aload 0, 1), (.invokeinterface 3 8, 3)] (pc' := 32) (S' := ([(4, .int s0), (0, .ref 26), (1, .int a1), (2, .int a2), (3, .int a3)], [.ref 13], rf_MM w m)) (by decide +kernel) rfl trivial ?_
  obtain ⟨m0, hc0, hg⟩ := rf_bv_some hg
  refine rf_callv C rf_fit0 j_X9_clearFacts (ci := 9) (As := []) (rest := []) mw_X9_clearFacts (c_X9_clearFacts hc0) (by decide) rfl (by decide) lk_3_91 rfl rfl (Nat.le_of_ble_eq_true rfl) (by decide +kernel) ?_
  show rf_V 12 (rf_sh w) K 0 0 35 ([(4, .int s0), (0, .ref 26), (1, .int a1), (2, .int a2), (3, .int a3)], [], rf_MM w m0)
  obtain ⟨q1, hg⟩ := rf_g_some hg
  refine rf_seg C [(.aload 0, 1), (.invokeinterface 3 8, 3), (.invokeinterface 9 1, 3), (.iconst 3, 1), (.iload 3, 1), (.iastore, 1), (.aload 0, 1), (.invokeinterface 3 8, 3), (.invokeinterface 9 1, 3), (.iconst 6, 2), (.aload 0, 1), (.invokeinterface 3 1, 3), (.iload 1, 1), (.iaload, 1), (.iastore, 1), (.iconst 0, 1), (.istore 5, 2), (.iconst 0, 1), (.istore 6, 2), (.iconst 12960000, 2), (.istore 7, 2), (.iconst (-1), 1), (.istore 8, 2), (.iconst 0, 1), (.istore 9, 2)] (pc' := 77) (S' := ([(9, .int 0), (8, .int ((-1))), (7, .int 12960000), (6, .int 0), (5, .int 0), (4, .int s0), (0, .ref 26), (1, .int a1), (2, .int a2), (3, .int a3)], [], rf_MM w (rf_i (rf_i m0 18 (Int32.toNatClampNeg 3) a3) 18 (Int32.toNatClampNeg 6) ((rf_i m0 18 (Int32.toNatClampNeg 3) a3).1 28 (Int32.toNatClampNeg a1))))) (by decide +kernel) rfl (by exact ⟨(rf_in_of (by decide)), (rf_in_of q1), (rf_in_of (by decide))⟩) ?_
  refine rf_few [6, 7, 8, 9, 5, 4, 3, 2, 1, 0] rfl ?_
  exact s_X3_recount_77 C hE rf_fuel a1 a2 a3 s0 0 0 12960000 ((-1)) 0 (rf_i (rf_i m0 18 (Int32.toNatClampNeg 3) a3) 18 (Int32.toNatClampNeg 6) ((rf_i m0 18 (Int32.toNatClampNeg 3) a3).1 28 (Int32.toNatClampNeg a1))) hg
theorem c_X3_recount {w : rf_w} {m : rf_m} {a1 : Int32} {a2 : Int32} {r : rf_m} (hg : g_X3_recount w m a1 a2 = some r) : rf_Con j_X3_recount 6 (rf_sh w) [.ref 26, .int a1, .int a2] (rf_MM w m) none (rf_MM w r) := by
  refine rf_con j_X3_recount 6 ⟨by decide +kernel, rfl, Nat.le_of_ble_eq_true rfl⟩ (fun K C hE => ?_)
  unfold g_X3_recount at hg
  show rf_V 12 (rf_sh w) K 0 0 0 ([(0, .ref 26), (1, .int a1), (2, .int a2)], [], rf_MM w m)
  refine rf_seg C [(.aload 0, 1), (.iload 1, 1), (.iload 2, 1)] (pc' := 3) (S' := ([(0, .ref 26), (1, .int a1), (2, .int a2)], [.int a2, .int a1, .ref 26], rf_MM w m)) (by decide +kernel) rfl trivial ?_
  obtain ⟨y0, m0, hc0, hg⟩ := rf_b_some hg
  refine rf_callv C rf_fit0 j_X3_sortSeen (ci := 3) (As := [.int a1, .int a2]) (rest := []) mw_X3_sortSeen (c_X3_sortSeen hc0) (by decide) rfl (by decide) lk_3_88 rfl rfl (Nat.le_of_ble_eq_true rfl) (by decide +kernel) ?_
  show rf_V 12 (rf_sh w) K 0 0 6 ([(0, .ref 26), (1, .int a1), (2, .int a2)], [.int y0], rf_MM w m0)
  refine rf_seg C [(.istore 3, 1), (.iload 3, 1)] (pc' := 8) (S' := ([(3, .int y0), (0, .ref 26), (1, .int a1), (2, .int a2)], [.int y0], rf_MM w m0)) (by decide +kernel) rfl trivial ?_
  refine rf_if_ne C 8 16 (by decide +kernel) (fun hc => ?_) (fun hc => ?_)
  · replace hg := (if_neg hc).symm.trans hg
    obtain ⟨q1, hg⟩ := rf_g_some hg
    refine rf_seg C [(.aload 0, 1), (.invokeinterface 3 12, 3), (.iload 3, 1), (.iconst 1, 1), (.isub, 1), (.iconst 2, 1), (.idiv, 1), (.iaload, 1)] (pc' := 26) (S' := ([(3, .int y0), (0, .ref 26), (1, .int a1), (2, .int a2)], [.int (m0.1 35 (Int32.toNatClampNeg ((y0 - 1) / 2)))], rf_MM w m0)) (by decide +kernel) rfl (by exact ⟨(rf_nz_of (by decide)), (rf_in_of q1)⟩) ?_
    refine rf_few [1, 2, 3, 0] rfl ?_
    exact s_X3_recount_26 C hE a1 a2 y0 (m0.1 35 (Int32.toNatClampNeg ((y0 - 1) / 2))) m0 hg
  · replace hg := (if_pos hc).symm.trans hg
    refine rf_seg C [(.iconst (-2), 2)] (pc' := 13) (S' := ([(3, .int y0), (0, .ref 26), (1, .int a1), (2, .int a2)], [.int ((-2))], rf_MM w m0)) (by decide +kernel) rfl trivial ?_
    refine rf_goto C 13 26 (by decide +kernel) ?_
    refine rf_few [1, 2, 3, 0] rfl ?_
    exact s_X3_recount_26 C hE a1 a2 y0 ((-2)) m0 hg
-- X3_freshen
abbrev j_X3_freshen : rf_J := (3, yX3_freshen, cX3_freshen, 2, none)
theorem mw_X3_freshen : rf_mv j_X3_freshen (rf_R 3) 1 := ⟨⟨rf_mem 25 (by decide +kernel), rf_mem 25 (by decide +kernel), rf_mem 0 (by decide +kernel), rf_mem 25 (by decide +kernel)⟩, by decide +kernel, by decide⟩
def g_X3_freshen (w : rf_w) (m : rf_m) (a1 : Int32) : Option (rf_m) := rf_g (rf_in a1 80) ((if (m.1 40 (Int32.toNatClampNeg a1)) = 0 then some m else rf_bv (g_X3_recount w m a1 9999) fun m1 => some m1))
theorem c_X3_freshen {w : rf_w} {m : rf_m} {a1 : Int32} {r : rf_m} (hg : g_X3_freshen w m a1 = some r) : rf_Con j_X3_freshen 7 (rf_sh w) [.ref 26, .int a1] (rf_MM w m) none (rf_MM w r) := by
  refine rf_con j_X3_freshen 7 ⟨by decide +kernel, rfl, Nat.le_of_ble_eq_true rfl⟩ (fun K C hE => ?_)
  unfold g_X3_freshen at hg
  show rf_V 2 (rf_sh w) K 0 0 0 ([(0, .ref 26), (1, .int a1)], [], rf_MM w m)
  obtain ⟨q0, hg⟩ := rf_g_some hg
  refine rf_seg C [(.aload 0, 1), (.invokeinterface 3 18, 3), (.iload 1, 1), (.baload, 1)] (pc' := 6) (S' := ([(0, .ref 26), (1, .int a1)], [.int (m.1 40 (Int32.toNatClampNeg a1))], rf_MM w m)) (by decide +kernel) rfl (rf_in_of q0) ?_
  refine rf_if_eq C 11 17 (by decide +kernel) (fun hc => ?_) (fun hc => ?_)
  · replace hg := (if_pos hc).symm.trans hg
    obtain rfl := Option.some.inj hg
    exact rf_vret C hE (by decide +kernel)
  · replace hg := (if_neg hc).symm.trans hg
    refine rf_seg C [(.aload 0, 1), (.iload 1, 1), (.iconst 9999, 3)] (pc' := 14) (S' := ([(0, .ref 26), (1, .int a1)], [.int 9999, .int a1, .ref 26], rf_MM w m)) (by decide +kernel) rfl trivial ?_
    obtain ⟨m1, hc1, hg⟩ := rf_bv_some hg
    refine rf_callv C rf_fit0 j_X3_recount (ci := 3) (As := [.int a1, .int 9999]) (rest := []) mw_X3_recount (c_X3_recount hc1) (by decide) rfl (by decide) lk_3_84 rfl rfl (Nat.le_of_ble_eq_true rfl) (by decide +kernel) ?_
    show rf_V 2 (rf_sh w) K 0 0 17 ([(0, .ref 26), (1, .int a1)], [], rf_MM w m1)
    obtain rfl := Option.some.inj hg
    exact rf_vret C hE (by decide +kernel)
-- X3_freshenAll
abbrev j_X3_freshenAll : rf_J := (3, yX3_freshenAll, cX3_freshenAll, 2, none)
theorem mw_X3_freshenAll : rf_mv j_X3_freshenAll (rf_R 3) 0 := ⟨⟨rf_mem 60 (by decide +kernel), rf_mem 60 (by decide +kernel), rf_mem 0 (by decide +kernel), rf_mem 60 (by decide +kernel)⟩, by decide +kernel, by decide⟩
def g_X3_freshenAll_35 (w : rf_w) (rec10 : Int32 → rf_m → Option (rf_m)) (a1 : Int32) (m : rf_m) : Option (rf_m) := rec10 (a1 + 1) m
def g_X3_freshenAll_10_b (w : rf_w) (rec10 : Int32 → rf_m → Option (rf_m)) (a1 : Int32) (m : rf_m) : Option (rf_m) := (if (m.1 26 6) ≤ a1 then some (rf_i m 26 19 0) else rf_g (rf_in a1 80) ((if (m.1 40 (Int32.toNatClampNeg a1)) = 0 then g_X3_freshenAll_35 w rec10 a1 m else rf_bv (g_X3_recount w m a1 9999) fun m1 => g_X3_freshenAll_35 w rec10 a1 m1)))
def g_X3_freshenAll_10 (w : rf_w) : Nat → Int32 → rf_m → Option (rf_m)
  | 0, _, _ => none
  | n + 1, a1, m => g_X3_freshenAll_10_b w (g_X3_freshenAll_10 w n) a1 m
def g_X3_freshenAll (w : rf_w) (m : rf_m) : Option (rf_m) := (if (m.1 26 19) = 0 then some m else g_X3_freshenAll_10 w rf_fuel 0 m)
theorem s_X3_freshenAll_35 {w : rf_w} {K : rf_K} {r : rf_m} (C : rf_Ctx 3 cX3_freshenAll 2 7 (rf_sh w) K) (hE : rf_End none K (rf_sh w) 0 0 none (rf_MM w r)) {rec10 : Int32 → rf_m → Option (rf_m)} (hr10 : ∀ (a1 : Int32) (m : rf_m), rec10 a1 m = some r → rf_V 2 (rf_sh w) K 0 0 10 ([(0, .ref 26), (1, .int a1)], [], rf_MM w m)) (a1 : Int32) (m : rf_m) (hg : g_X3_freshenAll_35 w rec10 a1 m = some r) : rf_V 2 (rf_sh w) K 0 0 35 ([(0, .ref 26), (1, .int a1)], [], rf_MM w m) := by
  unfold g_X3_freshenAll_35 at hg
  refine rf_seg C [(.iinc 1 1, 3)] (pc' := 38) (S' := ([(1, .int (a1 + 1)), (0, .ref 26)], [], rf_MM w m)) (by decide +kernel) rfl trivial ?_
  refine rf_goto C (-28) 10 (by decide +kernel) ?_
  refine rf_few [1, 0] rfl ?_
  exact hr10 (a1 + 1) m hg
theorem s_X3_freshenAll_10_b {w : rf_w} {K : rf_K} {r : rf_m} (C : rf_Ctx 3 cX3_freshenAll 2 7 (rf_sh w) K) (hE : rf_End none K (rf_sh w) 0 0 none (rf_MM w r)) {rec10 : Int32 → rf_m → Option (rf_m)} (hr10 : ∀ (a1 : Int32) (m : rf_m), rec10 a1 m = some r → rf_V 2 (rf_sh w) K 0 0 10 ([(0, .ref 26), (1, .int a1)], [], rf_MM w m)) (a1 : Int32) (m : rf_m) (hg : g_X3_freshenAll_10_b w rec10 a1 m = some r) : rf_V 2 (rf_sh w) K 0 0 10 ([(0, .ref 26), (1, .int a1)], [], rf_MM w m) := by
  unfold g_X3_freshenAll_10_b at hg
  refine rf_seg C [(.iload 1, 1), (.aload 0, 1), (.invokeinterface 3 6, 3)] (pc' := 15) (S' := ([(0, .ref 26), (1, .int a1)], [.int (m.1 26 6), .int a1], rf_MM w m)) (by decide +kernel) rfl trivial ?_
  refine rf_icmp_ge C 26 41 (by decide +kernel) (fun hc => ?_) (fun hc => ?_)
  · replace hg := (if_pos hc).symm.trans hg
    refine rf_seg C [(.aload 0, 1), (.iconst 0, 1), (.multianewarray 3 19, 3)] (pc' := 46) (S' := ([(0, .ref 26), (1, .int a1)], [], rf_MM w (rf_i m 26 19 0))) (by decide +kernel) rfl (rf_01_of (by decide)) ?_
    obtain rfl := Option.some.inj hg
    exact rf_vret C hE (by decide +kernel)
  · replace hg := (if_neg hc).symm.trans hg
    obtain ⟨q0, hg⟩ := rf_g_some hg
    refine rf_seg C [(.aload 0, 1), (.invokeinterface 3 18, 3), (.iload 1, 1), (.baload, 1)] (pc' := 24) (S' := ([(0, .ref 26), (1, .int a1)], [.int (m.1 40 (Int32.toNatClampNeg a1))], rf_MM w m)) (by decide +kernel) rfl (rf_in_of q0) ?_
    refine rf_if_eq C 11 35 (by decide +kernel) (fun hc => ?_) (fun hc => ?_)
    · replace hg := (if_pos hc).symm.trans hg
      refine rf_few [0, 1] rfl ?_
      exact s_X3_freshenAll_35 C hE hr10 a1 m hg
    · replace hg := (if_neg hc).symm.trans hg
      refine rf_seg C [(.aload 0, 1), (.iload 1, 1), (.iconst 9999, 3)] (pc' := 32) (S' := ([(0, .ref 26), (1, .int a1)], [.int 9999, .int a1, .ref 26], rf_MM w m)) (by decide +kernel) rfl trivial ?_
      obtain ⟨m1, hc1, hg⟩ := rf_bv_some hg
      refine rf_callv C rf_fit0 j_X3_recount (ci := 3) (As := [.int a1, .int 9999]) (rest := []) mw_X3_recount (c_X3_recount hc1) (by decide) rfl (by decide) lk_3_84 rfl rfl (Nat.le_of_ble_eq_true rfl) (by decide +kernel) ?_
      show rf_V 2 (rf_sh w) K 0 0 35 ([(0, .ref 26), (1, .int a1)], [], rf_MM w m1)
      refine rf_few [0, 1] rfl ?_
      exact s_X3_freshenAll_35 C hE hr10 a1 m1 hg
theorem s_X3_freshenAll_10 {w : rf_w} {K : rf_K} {r : rf_m} (C : rf_Ctx 3 cX3_freshenAll 2 7 (rf_sh w) K) (hE : rf_End none K (rf_sh w) 0 0 none (rf_MM w r)) (n : Nat) : ∀ (a1 : Int32) (m : rf_m), g_X3_freshenAll_10 w n a1 m = some r → rf_V 2 (rf_sh w) K 0 0 10 ([(0, .ref 26), (1, .int a1)], [], rf_MM w m) := by
  induction n with
  | zero => intro a1 m hg; cases hg
  | succ n ih => intro a1 m hg; exact s_X3_freshenAll_10_b C hE ih a1 m hg
theorem c_X3_freshenAll {w : rf_w} {m : rf_m} {r : rf_m} (hg : g_X3_freshenAll w m = some r) : rf_Con j_X3_freshenAll 7 (rf_sh w) [.ref 26] (rf_MM w m) none (rf_MM w r) := by
  refine rf_con j_X3_freshenAll 7 ⟨by decide +kernel, rfl, Nat.le_of_ble_eq_true rfl⟩ (fun K C hE => ?_)
  unfold g_X3_freshenAll at hg
  show rf_V 2 (rf_sh w) K 0 0 0 ([(0, .ref 26)], [], rf_MM w m)
  refine rf_seg C [(.aload 0, 1), (.invokeinterface 3 19, 3)] (pc' := 4) (S' := ([(0, .ref 26)], [.int (m.1 26 19)], rf_MM w m)) (by decide +kernel) rfl trivial ?_
  refine rf_if_ne C 4 8 (by decide +kernel) (fun hc => ?_) (fun hc => ?_)
  · replace hg := (if_neg hc).symm.trans hg
    refine rf_seg C [(.iconst 0, 1), (.istore 1, 1)] (pc' := 10) (S' := ([(1, .int 0), (0, .ref 26)], [], rf_MM w m)) (by decide +kernel) rfl trivial ?_
    refine rf_few [1, 0] rfl ?_
    exact s_X3_freshenAll_10 C hE rf_fuel 0 m hg
  · replace hg := (if_pos hc).symm.trans hg
    obtain rfl := Option.some.inj hg
    exact rf_vret C hE (by decide +kernel)
-- X3_keptAt
abbrev j_X3_keptAt : rf_J := (3, yX3_keptAt, cX3_keptAt, 6, (some .int))
theorem mw_X3_keptAt : rf_mv j_X3_keptAt (rf_R 3) 2 := ⟨⟨rf_mem 34 (by decide +kernel), rf_mem 34 (by decide +kernel), rf_mem 0 (by decide +kernel), rf_mem 34 (by decide +kernel)⟩, by decide +kernel, by decide⟩
def g_X3_keptAt_55 (w : rf_w) (rec5 : Int32 → Int32 → Int32 → rf_m → Option (Int32 × rf_m)) (a1 : Int32) (a3 : Int32) (a4 : Int32) (m : rf_m) : Option (Int32 × rf_m) := rec5 a1 a3 (a4 + 1) m
def g_X3_keptAt_5_b (w : rf_w) (rec5 : Int32 → Int32 → Int32 → rf_m → Option (Int32 × rf_m)) (a1 : Int32) (a3 : Int32) (a4 : Int32) (m : rf_m) : Option (Int32 × rf_m) := rf_g (rf_in ((a1 * 9) + 6) 720) ((if (m.1 34 (Int32.toNatClampNeg ((a1 * 9) + 6))) ≤ a4 then some ((-1), m) else rf_g (rf_in ((a1 * 20) + a4) 1600) (rf_vi (m.1 33 (Int32.toNatClampNeg ((a1 * 20) + a4))) fun x2 => rf_b (g_X3_isKept w m x2) fun y3 m3 => (if y3 = 0 then g_X3_keptAt_55 w rec5 a1 a3 a4 m3 else (if a3 = 0 then some (x2, m3) else g_X3_keptAt_55 w rec5 a1 (a3 + (-1)) a4 m3)))))
def g_X3_keptAt_5 (w : rf_w) : Nat → Int32 → Int32 → Int32 → rf_m → Option (Int32 × rf_m)
  | 0, _, _, _, _ => none
  | n + 1, a1, a3, a4, m => g_X3_keptAt_5_b w (g_X3_keptAt_5 w n) a1 a3 a4 m
def g_X3_keptAt (w : rf_w) (m : rf_m) (a1 : Int32) (a2 : Int32) : Option (Int32 × rf_m) := g_X3_keptAt_5 w rf_fuel a1 a2 0 m
theorem s_X3_keptAt_55 {w : rf_w} {K : rf_K} {r : Int32 × rf_m} (C : rf_Ctx 3 cX3_keptAt 6 3 (rf_sh w) K) (hE : rf_End (some .int) K (rf_sh w) 0 0 (some (.int r.1)) (rf_MM w r.2)) {rec5 : Int32 → Int32 → Int32 → rf_m → Option (Int32 × rf_m)} (hr5 : ∀ (a1 : Int32) (a3 : Int32) (a4 : Int32) (m : rf_m), rec5 a1 a3 a4 m = some r → rf_V 6 (rf_sh w) K 0 0 5 ([(0, .ref 26), (1, .int a1), (3, .int a3), (4, .int a4)], [], rf_MM w m)) (a1 : Int32) (a3 : Int32) (a4 : Int32) (m : rf_m) (hg : g_X3_keptAt_55 w rec5 a1 a3 a4 m = some r) : rf_V 6 (rf_sh w) K 0 0 55 ([(0, .ref 26), (1, .int a1), (3, .int a3), (4, .int a4)], [], rf_MM w m) := by
  unfold g_X3_keptAt_55 at hg
  refine rf_seg C [(.iinc 4 1, 3)] (pc' := 58) (S' := ([(4, .int (a4 + 1)), (0, .ref 26), (1, .int a1), (3, .int a3)], [], rf_MM w m)) (by decide +kernel) rfl trivial ?_
  refine rf_goto C (-53) 5 (by decide +kernel) ?_
  refine rf_few [1, 2, 3, 0] rfl ?_
  exact hr5 a1 a3 (a4 + 1) m hg
theorem s_X3_keptAt_5_b {w : rf_w} {K : rf_K} {r : Int32 × rf_m} (C : rf_Ctx 3 cX3_keptAt 6 3 (rf_sh w) K) (hE : rf_End (some .int) K (rf_sh w) 0 0 (some (.int r.1)) (rf_MM w r.2)) {rec5 : Int32 → Int32 → Int32 → rf_m → Option (Int32 × rf_m)} (hr5 : ∀ (a1 : Int32) (a3 : Int32) (a4 : Int32) (m : rf_m), rec5 a1 a3 a4 m = some r → rf_V 6 (rf_sh w) K 0 0 5 ([(0, .ref 26), (1, .int a1), (3, .int a3), (4, .int a4)], [], rf_MM w m)) (a1 : Int32) (a3 : Int32) (a4 : Int32) (m : rf_m) (hg : g_X3_keptAt_5_b w rec5 a1 a3 a4 m = some r) : rf_V 6 (rf_sh w) K 0 0 5 ([(0, .ref 26), (1, .int a1), (3, .int a3), (4, .int a4)], [], rf_MM w m) := by
  unfold g_X3_keptAt_5_b at hg
  obtain ⟨q0, hg⟩ := rf_g_some hg
  refine rf_seg C [(.iload 4, 2), (.aload 0, 1), (.invokeinterface 3 11, 3), (.iload 1, 1), (.iconst 9, 2), (.imul, 1), (.iconst 6, 2), (.iadd, 1), (.iaload, 1)] (pc' := 19) (S' := ([(0, .ref 26), (1, .int a1), (3, .int a3), (4, .int a4)], [.int (m.1 34 (Int32.toNatClampNeg ((a1 * 9) + 6))), .int a4], rf_MM w m)) (by decide +kernel) rfl (rf_in_of q0) ?_
  refine rf_icmp_ge C 42 61 (by decide +kernel) (fun hc => ?_) (fun hc => ?_)
  · replace hg := (if_pos hc).symm.trans hg
    refine rf_seg C [(.iconst (-1), 1)] (pc' := 62) (S' := ([(0, .ref 26), (1, .int a1), (3, .int a3), (4, .int a4)], [.int ((-1))], rf_MM w m)) (by decide +kernel) rfl trivial ?_
    obtain rfl := Option.some.inj hg
    exact rf_iret C hE (by decide +kernel)
  · replace hg := (if_neg hc).symm.trans hg
    obtain ⟨q1, hg⟩ := rf_g_some hg
    refine rf_seg C [(.aload 0, 1), (.invokeinterface 3 10, 3), (.iload 1, 1), (.iconst 20, 2), (.imul, 1), (.iload 4, 2), (.iadd, 1), (.iaload, 1)] (pc' := 34) (S' := ([(0, .ref 26), (1, .int a1), (3, .int a3), (4, .int a4)], [.int (m.1 33 (Int32.toNatClampNeg ((a1 * 20) + a4)))], rf_MM w m)) (by decide +kernel) rfl (rf_in_of q1) ?_
    obtain ⟨x2, hx2, hg⟩ := rf_vi_some hg
    refine rf_vi_top hx2 ?_
    refine rf_seg C [(.istore 5, 2), (.aload 0, 1), (.iload 5, 2)] (pc' := 39) (S' := ([(5, .int x2), (0, .ref 26), (1, .int a1), (3, .int a3), (4, .int a4)], [.int x2, .ref 26], rf_MM w m)) (by decide +kernel) rfl trivial ?_
    obtain ⟨y3, m3, hc3, hg⟩ := rf_b_some hg
    refine rf_callv C rf_fit0 j_X3_isKept (ci := 3) (As := [.int x2]) (rest := []) mw_X3_isKept (c_X3_isKept hc3) (by decide) rfl (by decide) lk_3_125 rfl rfl (Nat.le_of_ble_eq_true rfl) (by decide +kernel) ?_
    show rf_V 6 (rf_sh w) K 0 0 42 ([(5, .int x2), (0, .ref 26), (1, .int a1), (3, .int a3), (4, .int a4)], [.int y3], rf_MM w m3)
    refine rf_if_eq C 13 55 (by decide +kernel) (fun hc => ?_) (fun hc => ?_)
    · replace hg := (if_pos hc).symm.trans hg
      refine rf_few [1, 2, 3, 4] rfl ?_
      exact s_X3_keptAt_55 C hE hr5 a1 a3 a4 m3 hg
    · replace hg := (if_neg hc).symm.trans hg
      refine rf_seg C [(.iload 3, 1)] (pc' := 46) (S' := ([(5, .int x2), (0, .ref 26), (1, .int a1), (3, .int a3), (4, .int a4)], [.int a3], rf_MM w m3)) (by decide +kernel) rfl trivial ?_
      refine rf_if_ne C 6 52 (by decide +kernel) (fun hc => ?_) (fun hc => ?_)
      · replace hg := (if_neg hc).symm.trans hg
        refine rf_seg C [(.iinc 3 (-1), 3)] (pc' := 55) (S' := ([(3, .int (a3 + (-1))), (5, .int x2), (0, .ref 26), (1, .int a1), (4, .int a4)], [], rf_MM w m3)) (by decide +kernel) rfl trivial ?_
        refine rf_few [2, 3, 0, 4] rfl ?_
        exact s_X3_keptAt_55 C hE hr5 a1 (a3 + (-1)) a4 m3 hg
      · replace hg := (if_pos hc).symm.trans hg
        refine rf_seg C [(.iload 5, 2)] (pc' := 51) (S' := ([(5, .int x2), (0, .ref 26), (1, .int a1), (3, .int a3), (4, .int a4)], [.int x2], rf_MM w m3)) (by decide +kernel) rfl trivial ?_
        obtain rfl := Option.some.inj hg
        exact rf_iret C hE (by decide +kernel)
theorem s_X3_keptAt_5 {w : rf_w} {K : rf_K} {r : Int32 × rf_m} (C : rf_Ctx 3 cX3_keptAt 6 3 (rf_sh w) K) (hE : rf_End (some .int) K (rf_sh w) 0 0 (some (.int r.1)) (rf_MM w r.2)) (n : Nat) : ∀ (a1 : Int32) (a3 : Int32) (a4 : Int32) (m : rf_m), g_X3_keptAt_5 w n a1 a3 a4 m = some r → rf_V 6 (rf_sh w) K 0 0 5 ([(0, .ref 26), (1, .int a1), (3, .int a3), (4, .int a4)], [], rf_MM w m) := by
  induction n with
  | zero => intro a1 a3 a4 m hg; cases hg
  | succ n ih => intro a1 a3 a4 m hg; exact s_X3_keptAt_5_b C hE ih a1 a3 a4 m hg
theorem c_X3_keptAt {w : rf_w} {m : rf_m} {a1 : Int32} {a2 : Int32} {r : Int32 × rf_m} (hg : g_X3_keptAt w m a1 a2 = some r) : rf_Con j_X3_keptAt 3 (rf_sh w) [.ref 26, .int a1, .int a2] (rf_MM w m) (some (.int r.1)) (rf_MM w r.2) := by
  refine rf_con j_X3_keptAt 3 ⟨by decide +kernel, rfl, Nat.le_of_ble_eq_true rfl⟩ (fun K C hE => ?_)
  unfold g_X3_keptAt at hg
  show rf_V 6 (rf_sh w) K 0 0 0 ([(0, .ref 26), (1, .int a1), (2, .int a2)], [], rf_MM w m)
  refine rf_seg C [(.iload 2, 1), (.istore 3, 1), (.iconst 0, 1), (.istore 4, 2)] (pc' := 5) (S' := ([(4, .int 0), (3, .int a2), (0, .ref 26), (1, .int a1), (2, .int a2)], [], rf_MM w m)) (by decide +kernel) rfl trivial ?_
  refine rf_few [2, 3, 1, 0] rfl ?_
  exact s_X3_keptAt_5 C hE rf_fuel a1 a2 0 m hg
-- X9_sendsAgain
abbrev j_X9_sendsAgain : rf_J := (9, yX9_sendsAgain, cX9_sendsAgain, 3, (some .boolean))
theorem mw_X9_sendsAgain : rf_mv j_X9_sendsAgain (rf_R 9) 1 := ⟨⟨rf_mem 32 (by decide +kernel), rf_mem 32 (by decide +kernel), rf_mem 0 (by decide +kernel), rf_mem 32 (by decide +kernel)⟩, by decide +kernel, by decide⟩
def g_X9_sendsAgain_30 (w : rf_w) (rec2 : Int32 → Int32 → rf_m → Option (Int32 × rf_m)) (a1 : Int32) (a2 : Int32) (m : rf_m) : Option (Int32 × rf_m) := rec2 a1 (a2 + 1) m
def g_X9_sendsAgain_2_b (w : rf_w) (rec2 : Int32 → Int32 → rf_m → Option (Int32 × rf_m)) (a1 : Int32) (a2 : Int32) (m : rf_m) : Option (Int32 × rf_m) := (if (m.1 13 3) ≤ a2 then some (0, m) else rf_b (g_X9_isDue w m a2 3 a1) fun y0 m0 => (if y0 = 0 then g_X9_sendsAgain_30 w rec2 a1 a2 m0 else rf_b (g_X9_holds w m0 a2) fun y1 m1 => (if y1 = 0 then g_X9_sendsAgain_30 w rec2 a1 a2 m1 else some (1, m1))))
def g_X9_sendsAgain_2 (w : rf_w) : Nat → Int32 → Int32 → rf_m → Option (Int32 × rf_m)
  | 0, _, _, _ => none
  | n + 1, a1, a2, m => g_X9_sendsAgain_2_b w (g_X9_sendsAgain_2 w n) a1 a2 m
def g_X9_sendsAgain (w : rf_w) (m : rf_m) (a1 : Int32) : Option (Int32 × rf_m) := g_X9_sendsAgain_2 w rf_fuel a1 0 m
theorem s_X9_sendsAgain_30 {w : rf_w} {K : rf_K} {r : Int32 × rf_m} (C : rf_Ctx 9 cX9_sendsAgain 3 4 (rf_sh w) K) (hE : rf_End (some .boolean) K (rf_sh w) 0 0 (some (.int r.1)) (rf_MM w r.2)) {rec2 : Int32 → Int32 → rf_m → Option (Int32 × rf_m)} (hr2 : ∀ (a1 : Int32) (a2 : Int32) (m : rf_m), rec2 a1 a2 m = some r → rf_V 3 (rf_sh w) K 0 0 2 ([(0, .ref 13), (1, .int a1), (2, .int a2)], [], rf_MM w m)) (a1 : Int32) (a2 : Int32) (m : rf_m) (hg : g_X9_sendsAgain_30 w rec2 a1 a2 m = some r) : rf_V 3 (rf_sh w) K 0 0 30 ([(0, .ref 13), (1, .int a1), (2, .int a2)], [], rf_MM w m) := by
  unfold g_X9_sendsAgain_30 at hg
  refine rf_seg C [(.iinc 2 1, 3)] (pc' := 33) (S' := ([(2, .int (a2 + 1)), (0, .ref 13), (1, .int a1)], [], rf_MM w m)) (by decide +kernel) rfl trivial ?_
  refine rf_goto C (-31) 2 (by decide +kernel) ?_
  refine rf_few [1, 2, 0] rfl ?_
  exact hr2 a1 (a2 + 1) m hg
theorem s_X9_sendsAgain_2_b {w : rf_w} {K : rf_K} {r : Int32 × rf_m} (C : rf_Ctx 9 cX9_sendsAgain 3 4 (rf_sh w) K) (hE : rf_End (some .boolean) K (rf_sh w) 0 0 (some (.int r.1)) (rf_MM w r.2)) {rec2 : Int32 → Int32 → rf_m → Option (Int32 × rf_m)} (hr2 : ∀ (a1 : Int32) (a2 : Int32) (m : rf_m), rec2 a1 a2 m = some r → rf_V 3 (rf_sh w) K 0 0 2 ([(0, .ref 13), (1, .int a1), (2, .int a2)], [], rf_MM w m)) (a1 : Int32) (a2 : Int32) (m : rf_m) (hg : g_X9_sendsAgain_2_b w rec2 a1 a2 m = some r) : rf_V 3 (rf_sh w) K 0 0 2 ([(0, .ref 13), (1, .int a1), (2, .int a2)], [], rf_MM w m) := by
  unfold g_X9_sendsAgain_2_b at hg
  refine rf_seg C [(.iload 2, 1), (.aload 0, 1), (.invokeinterface 9 3, 3)] (pc' := 7) (S' := ([(0, .ref 13), (1, .int a1), (2, .int a2)], [.int (m.1 13 3), .int a2], rf_MM w m)) (by decide +kernel) rfl trivial ?_
  refine rf_icmp_ge C 29 36 (by decide +kernel) (fun hc => ?_) (fun hc => ?_)
  · replace hg := (if_pos hc).symm.trans hg
    refine rf_seg C [(.iconst 0, 1)] (pc' := 37) (S' := ([(0, .ref 13), (1, .int a1), (2, .int a2)], [.int 0], rf_MM w m)) (by decide +kernel) rfl trivial ?_
    obtain rfl := Option.some.inj hg
    exact rf_zret C hE (by decide) (by decide +kernel)
  · replace hg := (if_neg hc).symm.trans hg
    refine rf_seg C [(.aload 0, 1), (.iload 2, 1), (.iconst 3, 1), (.iload 1, 1)] (pc' := 14) (S' := ([(0, .ref 13), (1, .int a1), (2, .int a2)], [.int a1, .int 3, .int a2, .ref 13], rf_MM w m)) (by decide +kernel) rfl trivial ?_
    obtain ⟨y0, m0, hc0, hg⟩ := rf_b_some hg
    refine rf_callv C rf_fit0 j_X9_isDue (ci := 9) (As := [.int a2, .int 3, .int a1]) (rest := []) mw_X9_isDue (c_X9_isDue hc0) (by decide) rfl (by decide) lk_9_81 rfl rfl (Nat.le_of_ble_eq_true rfl) (by decide +kernel) ?_
    show rf_V 3 (rf_sh w) K 0 0 17 ([(0, .ref 13), (1, .int a1), (2, .int a2)], [.int y0], rf_MM w m0)
    refine rf_if_eq C 13 30 (by decide +kernel) (fun hc => ?_) (fun hc => ?_)
    · replace hg := (if_pos hc).symm.trans hg
      refine rf_few [0, 1, 2] rfl ?_
      exact s_X9_sendsAgain_30 C hE hr2 a1 a2 m0 hg
    · replace hg := (if_neg hc).symm.trans hg
      refine rf_seg C [(.aload 0, 1), (.iload 2, 1)] (pc' := 22) (S' := ([(0, .ref 13), (1, .int a1), (2, .int a2)], [.int a2, .ref 13], rf_MM w m0)) (by decide +kernel) rfl trivial ?_
      obtain ⟨y1, m1, hc1, hg⟩ := rf_b_some hg
      refine rf_callv C rf_fit0 j_X9_holds (ci := 9) (As := [.int a2]) (rest := []) mw_X9_holds (c_X9_holds hc1) (by decide) rfl (by decide) lk_9_85 rfl rfl (Nat.le_of_ble_eq_true rfl) (by decide +kernel) ?_
      show rf_V 3 (rf_sh w) K 0 0 25 ([(0, .ref 13), (1, .int a1), (2, .int a2)], [.int y1], rf_MM w m1)
      refine rf_if_eq C 5 30 (by decide +kernel) (fun hc => ?_) (fun hc => ?_)
      · replace hg := (if_pos hc).symm.trans hg
        refine rf_few [0, 1, 2] rfl ?_
        exact s_X9_sendsAgain_30 C hE hr2 a1 a2 m1 hg
      · replace hg := (if_neg hc).symm.trans hg
        refine rf_seg C [(.iconst 1, 1)] (pc' := 29) (S' := ([(0, .ref 13), (1, .int a1), (2, .int a2)], [.int 1], rf_MM w m1)) (by decide +kernel) rfl trivial ?_
        obtain rfl := Option.some.inj hg
        exact rf_zret C hE (by decide) (by decide +kernel)
theorem s_X9_sendsAgain_2 {w : rf_w} {K : rf_K} {r : Int32 × rf_m} (C : rf_Ctx 9 cX9_sendsAgain 3 4 (rf_sh w) K) (hE : rf_End (some .boolean) K (rf_sh w) 0 0 (some (.int r.1)) (rf_MM w r.2)) (n : Nat) : ∀ (a1 : Int32) (a2 : Int32) (m : rf_m), g_X9_sendsAgain_2 w n a1 a2 m = some r → rf_V 3 (rf_sh w) K 0 0 2 ([(0, .ref 13), (1, .int a1), (2, .int a2)], [], rf_MM w m) := by
  induction n with
  | zero => intro a1 a2 m hg; cases hg
  | succ n ih => intro a1 a2 m hg; exact s_X9_sendsAgain_2_b C hE ih a1 a2 m hg
theorem c_X9_sendsAgain {w : rf_w} {m : rf_m} {a1 : Int32} {r : Int32 × rf_m} (hg : g_X9_sendsAgain w m a1 = some r) : rf_Con j_X9_sendsAgain 4 (rf_sh w) [.ref 13, .int a1] (rf_MM w m) (some (.int r.1)) (rf_MM w r.2) := by
  refine rf_con j_X9_sendsAgain 4 ⟨by decide +kernel, rfl, Nat.le_of_ble_eq_true rfl⟩ (fun K C hE => ?_)
  unfold g_X9_sendsAgain at hg
  show rf_V 3 (rf_sh w) K 0 0 0 ([(0, .ref 13), (1, .int a1)], [], rf_MM w m)
  refine rf_seg C [(.iconst 0, 1), (.istore 2, 1)] (pc' := 2) (S' := ([(2, .int 0), (0, .ref 13), (1, .int a1)], [], rf_MM w m)) (by decide +kernel) rfl trivial ?_
  refine rf_few [1, 2, 0] rfl ?_
  exact s_X9_sendsAgain_2 C hE rf_fuel a1 0 m hg
-- X3_isAgain
abbrev j_X3_isAgain : rf_J := (3, yX3_isAgain, cX3_isAgain, 3, (some .boolean))
theorem mw_X3_isAgain : rf_mv j_X3_isAgain (rf_R 3) 2 := ⟨⟨rf_mem 32 (by decide +kernel), rf_mem 32 (by decide +kernel), rf_mem 0 (by decide +kernel), rf_mem 32 (by decide +kernel)⟩, by decide +kernel, by decide⟩
def g_X3_isAgain (w : rf_w) (m : rf_m) (a1 : Int32) (a2 : Int32) : Option (Int32 × rf_m) := rf_bv (g_X3_layOut w m a1) fun m0 => rf_g (rf_in ((a1 * 9) + 4) 720) ((if (m0.1 34 (Int32.toNatClampNeg ((a1 * 9) + 4))) = 0 then some (1, m0) else rf_b (g_X9_sendsAgain w m0 a2) fun y2 m2 => (if y2 = 0 then some (0, m2) else some (1, m2))))
theorem c_X3_isAgain {w : rf_w} {m : rf_m} {a1 : Int32} {a2 : Int32} {r : Int32 × rf_m} (hg : g_X3_isAgain w m a1 a2 = some r) : rf_Con j_X3_isAgain 5 (rf_sh w) [.ref 26, .int a1, .int a2] (rf_MM w m) (some (.int r.1)) (rf_MM w r.2) := by
  refine rf_con j_X3_isAgain 5 ⟨by decide +kernel, rfl, Nat.le_of_ble_eq_true rfl⟩ (fun K C hE => ?_)
  unfold g_X3_isAgain at hg
  show rf_V 3 (rf_sh w) K 0 0 0 ([(0, .ref 26), (1, .int a1), (2, .int a2)], [], rf_MM w m)
  refine rf_seg C [(.aload 0, 1), (.iload 1, 1)] (pc' := 2) (S' := ([(0, .ref 26), (1, .int a1), (2, .int a2)], [.int a1, .ref 26], rf_MM w m)) (by decide +kernel) rfl trivial ?_
  obtain ⟨m0, hc0, hg⟩ := rf_bv_some hg
  refine rf_callv C rf_fit0 j_X3_layOut (ci := 3) (As := [.int a1]) (rest := []) mw_X3_layOut (c_X3_layOut hc0) (by decide) rfl (by decide) lk_3_128 rfl rfl (Nat.le_of_ble_eq_true rfl) (by decide +kernel) ?_
  show rf_V 3 (rf_sh w) K 0 0 5 ([(0, .ref 26), (1, .int a1), (2, .int a2)], [], rf_MM w m0)
  obtain ⟨q1, hg⟩ := rf_g_some hg
  refine rf_seg C [(.aload 0, 1), (.invokeinterface 3 11, 3), (.iload 1, 1), (.iconst 9, 2), (.imul, 1), (.iconst 4, 1), (.iadd, 1), (.iaload, 1)] (pc' := 16) (S' := ([(0, .ref 26), (1, .int a1), (2, .int a2)], [.int (m0.1 34 (Int32.toNatClampNeg ((a1 * 9) + 4)))], rf_MM w m0)) (by decide +kernel) rfl (rf_in_of q1) ?_
  refine rf_if_eq C 14 30 (by decide +kernel) (fun hc => ?_) (fun hc => ?_)
  · replace hg := (if_pos hc).symm.trans hg
    refine rf_seg C [(.iconst 1, 1)] (pc' := 31) (S' := ([(0, .ref 26), (1, .int a1), (2, .int a2)], [.int 1], rf_MM w m0)) (by decide +kernel) rfl trivial ?_
    refine rf_goto C 4 35 (by decide +kernel) ?_
    obtain rfl := Option.some.inj hg
    exact rf_zret C hE (by decide) (by decide +kernel)
  · replace hg := (if_neg hc).symm.trans hg
    refine rf_seg C [(.aload 0, 1), (.invokeinterface 3 8, 3), (.iload 2, 1)] (pc' := 24) (S' := ([(0, .ref 26), (1, .int a1), (2, .int a2)], [.int a2, .ref 13], rf_MM w m0)) (by decide +kernel) rfl trivial ?_
    obtain ⟨y2, m2, hc2, hg⟩ := rf_b_some hg
    refine rf_callv C rf_fit0 j_X9_sendsAgain (ci := 9) (As := [.int a2]) (rest := []) mw_X9_sendsAgain (c_X9_sendsAgain hc2) (by decide) rfl (by decide) lk_3_134 rfl rfl (Nat.le_of_ble_eq_true rfl) (by decide +kernel) ?_
    show rf_V 3 (rf_sh w) K 0 0 27 ([(0, .ref 26), (1, .int a1), (2, .int a2)], [.int y2], rf_MM w m2)
    refine rf_if_eq C 7 34 (by decide +kernel) (fun hc => ?_) (fun hc => ?_)
    · replace hg := (if_pos hc).symm.trans hg
      refine rf_seg C [(.iconst 0, 1)] (pc' := 35) (S' := ([(0, .ref 26), (1, .int a1), (2, .int a2)], [.int 0], rf_MM w m2)) (by decide +kernel) rfl trivial ?_
      obtain rfl := Option.some.inj hg
      exact rf_zret C hE (by decide) (by decide +kernel)
    · replace hg := (if_neg hc).symm.trans hg
      refine rf_seg C [(.iconst 1, 1)] (pc' := 31) (S' := ([(0, .ref 26), (1, .int a1), (2, .int a2)], [.int 1], rf_MM w m2)) (by decide +kernel) rfl trivial ?_
      refine rf_goto C 4 35 (by decide +kernel) ?_
      obtain rfl := Option.some.inj hg
      exact rf_zret C hE (by decide) (by decide +kernel)
-- X3_againOnes
abbrev j_X3_againOnes : rf_J := (3, yX3_againOnes, cX3_againOnes, 4, (some .int))
theorem mw_X3_againOnes : rf_mv j_X3_againOnes (rf_R 3) 1 := ⟨⟨rf_mem 97 (by decide +kernel), rf_mem 97 (by decide +kernel), rf_mem 0 (by decide +kernel), rf_mem 97 (by decide +kernel)⟩, by decide +kernel, by decide⟩
def g_X3_againOnes_24 (w : rf_w) (rec4 : Int32 → Int32 → Int32 → rf_m → Option (Int32 × rf_m)) (a1 : Int32) (a2 : Int32) (a3 : Int32) (m : rf_m) : Option (Int32 × rf_m) := rec4 a1 a2 (a3 + 1) m
def g_X3_againOnes_4_b (w : rf_w) (rec4 : Int32 → Int32 → Int32 → rf_m → Option (Int32 × rf_m)) (a1 : Int32) (a2 : Int32) (a3 : Int32) (m : rf_m) : Option (Int32 × rf_m) := (if (m.1 26 6) ≤ a3 then some (a2, m) else rf_b (g_X3_isAgain w m a3 a1) fun y0 m0 => (if y0 = 0 then g_X3_againOnes_24 w rec4 a1 a2 a3 m0 else g_X3_againOnes_24 w rec4 a1 (a2 + 1) a3 m0))
def g_X3_againOnes_4 (w : rf_w) : Nat → Int32 → Int32 → Int32 → rf_m → Option (Int32 × rf_m)
  | 0, _, _, _, _ => none
  | n + 1, a1, a2, a3, m => g_X3_againOnes_4_b w (g_X3_againOnes_4 w n) a1 a2 a3 m
def g_X3_againOnes (w : rf_w) (m : rf_m) (a1 : Int32) : Option (Int32 × rf_m) := g_X3_againOnes_4 w rf_fuel a1 0 0 m
theorem s_X3_againOnes_24 {w : rf_w} {K : rf_K} {r : Int32 × rf_m} (C : rf_Ctx 3 cX3_againOnes 4 6 (rf_sh w) K) (hE : rf_End (some .int) K (rf_sh w) 0 0 (some (.int r.1)) (rf_MM w r.2)) {rec4 : Int32 → Int32 → Int32 → rf_m → Option (Int32 × rf_m)} (hr4 : ∀ (a1 : Int32) (a2 : Int32) (a3 : Int32) (m : rf_m), rec4 a1 a2 a3 m = some r → rf_V 4 (rf_sh w) K 0 0 4 ([(0, .ref 26), (1, .int a1), (2, .int a2), (3, .int a3)], [], rf_MM w m)) (a1 : Int32) (a2 : Int32) (a3 : Int32) (m : rf_m) (hg : g_X3_againOnes_24 w rec4 a1 a2 a3 m = some r) : rf_V 4 (rf_sh w) K 0 0 24 ([(0, .ref 26), (1, .int a1), (2, .int a2), (3, .int a3)], [], rf_MM w m) := by
  unfold g_X3_againOnes_24 at hg
  refine rf_seg C [(.iinc 3 1, 3)] (pc' := 27) (S' := ([(3, .int (a3 + 1)), (0, .ref 26), (1, .int a1), (2, .int a2)], [], rf_MM w m)) (by decide +kernel) rfl trivial ?_
  refine rf_goto C (-23) 4 (by decide +kernel) ?_
  refine rf_few [1, 2, 3, 0] rfl ?_
  exact hr4 a1 a2 (a3 + 1) m hg
theorem s_X3_againOnes_4_b {w : rf_w} {K : rf_K} {r : Int32 × rf_m} (C : rf_Ctx 3 cX3_againOnes 4 6 (rf_sh w) K) (hE : rf_End (some .int) K (rf_sh w) 0 0 (some (.int r.1)) (rf_MM w r.2)) {rec4 : Int32 → Int32 → Int32 → rf_m → Option (Int32 × rf_m)} (hr4 : ∀ (a1 : Int32) (a2 : Int32) (a3 : Int32) (m : rf_m), rec4 a1 a2 a3 m = some r → rf_V 4 (rf_sh w) K 0 0 4 ([(0, .ref 26), (1, .int a1), (2, .int a2), (3, .int a3)], [], rf_MM w m)) (a1 : Int32) (a2 : Int32) (a3 : Int32) (m : rf_m) (hg : g_X3_againOnes_4_b w rec4 a1 a2 a3 m = some r) : rf_V 4 (rf_sh w) K 0 0 4 ([(0, .ref 26), (1, .int a1), (2, .int a2), (3, .int a3)], [], rf_MM w m) := by
  unfold g_X3_againOnes_4_b at hg
  refine rf_seg C [(.iload 3, 1), (.aload 0, 1), (.invokeinterface 3 6, 3)] (pc' := 9) (S' := ([(0, .ref 26), (1, .int a1), (2, .int a2), (3, .int a3)], [.int (m.1 26 6), .int a3], rf_MM w m)) (by decide +kernel) rfl trivial ?_
  refine rf_icmp_ge C 21 30 (by decide +kernel) (fun hc => ?_) (fun hc => ?_)
  · replace hg := (if_pos hc).symm.trans hg
    refine rf_seg C [(.iload 2, 1)] (pc' := 31) (S' := ([(0, .ref 26), (1, .int a1), (2, .int a2), (3, .int a3)], [.int a2], rf_MM w m)) (by decide +kernel) rfl trivial ?_
    obtain rfl := Option.some.inj hg
    exact rf_iret C hE (by decide +kernel)
  · replace hg := (if_neg hc).symm.trans hg
    refine rf_seg C [(.aload 0, 1), (.iload 3, 1), (.iload 1, 1)] (pc' := 15) (S' := ([(0, .ref 26), (1, .int a1), (2, .int a2), (3, .int a3)], [.int a1, .int a3, .ref 26], rf_MM w m)) (by decide +kernel) rfl trivial ?_
    obtain ⟨y0, m0, hc0, hg⟩ := rf_b_some hg
    refine rf_callv C rf_fit0 j_X3_isAgain (ci := 3) (As := [.int a3, .int a1]) (rest := []) mw_X3_isAgain (c_X3_isAgain hc0) (by decide) rfl (by decide) lk_3_137 rfl rfl (Nat.le_of_ble_eq_true rfl) (by decide +kernel) ?_
    show rf_V 4 (rf_sh w) K 0 0 18 ([(0, .ref 26), (1, .int a1), (2, .int a2), (3, .int a3)], [.int y0], rf_MM w m0)
    refine rf_if_eq C 6 24 (by decide +kernel) (fun hc => ?_) (fun hc => ?_)
    · replace hg := (if_pos hc).symm.trans hg
      refine rf_few [0, 1, 2, 3] rfl ?_
      exact s_X3_againOnes_24 C hE hr4 a1 a2 a3 m0 hg
    · replace hg := (if_neg hc).symm.trans hg
      refine rf_seg C [(.iinc 2 1, 3)] (pc' := 24) (S' := ([(2, .int (a2 + 1)), (0, .ref 26), (1, .int a1), (3, .int a3)], [], rf_MM w m0)) (by decide +kernel) rfl trivial ?_
      refine rf_few [1, 2, 0, 3] rfl ?_
      exact s_X3_againOnes_24 C hE hr4 a1 (a2 + 1) a3 m0 hg
theorem s_X3_againOnes_4 {w : rf_w} {K : rf_K} {r : Int32 × rf_m} (C : rf_Ctx 3 cX3_againOnes 4 6 (rf_sh w) K) (hE : rf_End (some .int) K (rf_sh w) 0 0 (some (.int r.1)) (rf_MM w r.2)) (n : Nat) : ∀ (a1 : Int32) (a2 : Int32) (a3 : Int32) (m : rf_m), g_X3_againOnes_4 w n a1 a2 a3 m = some r → rf_V 4 (rf_sh w) K 0 0 4 ([(0, .ref 26), (1, .int a1), (2, .int a2), (3, .int a3)], [], rf_MM w m) := by
  induction n with
  | zero => intro a1 a2 a3 m hg; cases hg
  | succ n ih => intro a1 a2 a3 m hg; exact s_X3_againOnes_4_b C hE ih a1 a2 a3 m hg
theorem c_X3_againOnes {w : rf_w} {m : rf_m} {a1 : Int32} {r : Int32 × rf_m} (hg : g_X3_againOnes w m a1 = some r) : rf_Con j_X3_againOnes 6 (rf_sh w) [.ref 26, .int a1] (rf_MM w m) (some (.int r.1)) (rf_MM w r.2) := by
  refine rf_con j_X3_againOnes 6 ⟨by decide +kernel, rfl, Nat.le_of_ble_eq_true rfl⟩ (fun K C hE => ?_)
  unfold g_X3_againOnes at hg
  show rf_V 4 (rf_sh w) K 0 0 0 ([(0, .ref 26), (1, .int a1)], [], rf_MM w m)
  refine rf_seg C [(.iconst 0, 1), (.istore 2, 1), (.iconst 0, 1), (.istore 3, 1)] (pc' := 4) (S' := ([(3, .int 0), (2, .int 0), (0, .ref 26), (1, .int a1)], [], rf_MM w m)) (by decide +kernel) rfl trivial ?_
  refine rf_few [2, 3, 1, 0] rfl ?_
  exact s_X3_againOnes_4 C hE rf_fuel a1 0 0 m hg
-- X7_isWell
abbrev j_X7_isWell : rf_J := (7, yX7_isWell, cX7_isWell, 5, (some .boolean))
theorem mw_X7_isWell : rf_mv j_X7_isWell (rf_R 7) 2 := ⟨⟨rf_mem 62 (by decide +kernel), rf_mem 62 (by decide +kernel), rf_mem 1 (by decide +kernel), rf_mem 62 (by decide +kernel)⟩, by decide +kernel, by decide⟩
def g_X7_isWell_2_b (w : rf_w) (rec2 : Int32 → Int32 → Int32 → rf_m → Option (Int32 × rf_m)) (a1 : Int32) (a2 : Int32) (a3 : Int32) (m : rf_m) : Option (Int32 × rf_m) := (if 3 ≤ a3 then some (1, m) else rf_b (g_X7_cornerOf w m a1 a3) fun y0 m0 => rf_g (rf_in y0 80) (rf_vi (m0.1 31 (Int32.toNatClampNeg y0)) fun x2 => (if x2 < 0 then some (0, m0) else (if a2 ≤ x2 then rec2 a1 a2 (a3 + 1) m0 else some (0, m0)))))
def g_X7_isWell_2 (w : rf_w) : Nat → Int32 → Int32 → Int32 → rf_m → Option (Int32 × rf_m)
  | 0, _, _, _, _ => none
  | n + 1, a1, a2, a3, m => g_X7_isWell_2_b w (g_X7_isWell_2 w n) a1 a2 a3 m
def g_X7_isWell (w : rf_w) (m : rf_m) (a1 : Int32) (a2 : Int32) : Option (Int32 × rf_m) := g_X7_isWell_2 w rf_fuel a1 a2 0 m
theorem s_X7_isWell_2_b {w : rf_w} {K : rf_K} {r : Int32 × rf_m} (C : rf_Ctx 7 cX7_isWell 5 2 (rf_sh w) K) (hE : rf_End (some .boolean) K (rf_sh w) 0 0 (some (.int r.1)) (rf_MM w r.2)) {rec2 : Int32 → Int32 → Int32 → rf_m → Option (Int32 × rf_m)} (hr2 : ∀ (a1 : Int32) (a2 : Int32) (a3 : Int32) (m : rf_m), rec2 a1 a2 a3 m = some r → rf_V 5 (rf_sh w) K 0 0 2 ([(0, .ref 50), (1, .int a1), (2, .int a2), (3, .int a3)], [], rf_MM w m)) (a1 : Int32) (a2 : Int32) (a3 : Int32) (m : rf_m) (hg : g_X7_isWell_2_b w rec2 a1 a2 a3 m = some r) : rf_V 5 (rf_sh w) K 0 0 2 ([(0, .ref 50), (1, .int a1), (2, .int a2), (3, .int a3)], [], rf_MM w m) := by
  unfold g_X7_isWell_2_b at hg
  refine rf_seg C [(.iload 3, 1), (.iconst 3, 1)] (pc' := 4) (S' := ([(0, .ref 50), (1, .int a1), (2, .int a2), (3, .int a3)], [.int 3, .int a3], rf_MM w m)) (by decide +kernel) rfl trivial ?_
  refine rf_icmp_ge C 38 42 (by decide +kernel) (fun hc => ?_) (fun hc => ?_)
  · replace hg := (if_pos hc).symm.trans hg
    refine rf_seg C [(.iconst 1, 1)] (pc' := 43) (S' := ([(0, .ref 50), (1, .int a1), (2, .int a2), (3, .int a3)], [.int 1], rf_MM w m)) (by decide +kernel) rfl trivial ?_
    obtain rfl := Option.some.inj hg
    exact rf_zret C hE (by decide) (by decide +kernel)
  · replace hg := (if_neg hc).symm.trans hg
    refine rf_seg C [(.aload 0, 1), (.invokeinterface 7 2, 3), (.invokeinterface 3 4, 3), (.aload 0, 1), (.iload 1, 1), (.iload 3, 1)] (pc' := 17) (S' := ([(0, .ref 50), (1, .int a1), (2, .int a2), (3, .int a3)], [.int a3, .int a1, .ref 50, .ref 31], rf_MM w m)) (by decide +kernel) rfl trivial ?_
    obtain ⟨y0, m0, hc0, hg⟩ := rf_b_some hg
    refine rf_callv C rf_fit0 j_X7_cornerOf (ci := 7) (As := [.int a1, .int a3]) (rest := [.ref 31]) mw_X7_cornerOf (c_X7_cornerOf hc0) (by decide) rfl (by decide) lk_7_60 rfl rfl (Nat.le_of_ble_eq_true rfl) (by decide +kernel) ?_
    show rf_V 5 (rf_sh w) K 0 0 20 ([(0, .ref 50), (1, .int a1), (2, .int a2), (3, .int a3)], [.int y0, .ref 31], rf_MM w m0)
    obtain ⟨q1, hg⟩ := rf_g_some hg
    refine rf_seg C [(.iaload, 1)] (pc' := 21) (S' := ([(0, .ref 50), (1, .int a1), (2, .int a2), (3, .int a3)], [.int (m0.1 31 (Int32.toNatClampNeg y0))], rf_MM w m0)) (by decide +kernel) rfl (rf_in_of q1) ?_
    obtain ⟨x2, hx2, hg⟩ := rf_vi_some hg
    refine rf_vi_top hx2 ?_
    refine rf_seg C [(.istore 4, 2), (.iload 4, 2)] (pc' := 25) (S' := ([(4, .int x2), (0, .ref 50), (1, .int a1), (2, .int a2), (3, .int a3)], [.int x2], rf_MM w m0)) (by decide +kernel) rfl trivial ?_
    refine rf_if_lt C 9 34 (by decide +kernel) (fun hc => ?_) (fun hc => ?_)
    · replace hg := (if_pos hc).symm.trans hg
      refine rf_seg C [(.iconst 0, 1)] (pc' := 35) (S' := ([(4, .int x2), (0, .ref 50), (1, .int a1), (2, .int a2), (3, .int a3)], [.int 0], rf_MM w m0)) (by decide +kernel) rfl trivial ?_
      obtain rfl := Option.some.inj hg
      exact rf_zret C hE (by decide) (by decide +kernel)
    · replace hg := (if_neg hc).symm.trans hg
      refine rf_seg C [(.iload 4, 2), (.iload 2, 1)] (pc' := 31) (S' := ([(4, .int x2), (0, .ref 50), (1, .int a1), (2, .int a2), (3, .int a3)], [.int a2, .int x2], rf_MM w m0)) (by decide +kernel) rfl trivial ?_
      refine rf_icmp_ge C 5 36 (by decide +kernel) (fun hc => ?_) (fun hc => ?_)
      · replace hg := (if_pos hc).symm.trans hg
        refine rf_seg C [(.iinc 3 1, 3)] (pc' := 39) (S' := ([(3, .int (a3 + 1)), (4, .int x2), (0, .ref 50), (1, .int a1), (2, .int a2)], [], rf_MM w m0)) (by decide +kernel) rfl trivial ?_
        refine rf_goto C (-37) 2 (by decide +kernel) ?_
        refine rf_few [2, 3, 4, 0] rfl ?_
        exact hr2 a1 a2 (a3 + 1) m0 hg
      · replace hg := (if_neg hc).symm.trans hg
        refine rf_seg C [(.iconst 0, 1)] (pc' := 35) (S' := ([(4, .int x2), (0, .ref 50), (1, .int a1), (2, .int a2), (3, .int a3)], [.int 0], rf_MM w m0)) (by decide +kernel) rfl trivial ?_
        obtain rfl := Option.some.inj hg
        exact rf_zret C hE (by decide) (by decide +kernel)
theorem s_X7_isWell_2 {w : rf_w} {K : rf_K} {r : Int32 × rf_m} (C : rf_Ctx 7 cX7_isWell 5 2 (rf_sh w) K) (hE : rf_End (some .boolean) K (rf_sh w) 0 0 (some (.int r.1)) (rf_MM w r.2)) (n : Nat) : ∀ (a1 : Int32) (a2 : Int32) (a3 : Int32) (m : rf_m), g_X7_isWell_2 w n a1 a2 a3 m = some r → rf_V 5 (rf_sh w) K 0 0 2 ([(0, .ref 50), (1, .int a1), (2, .int a2), (3, .int a3)], [], rf_MM w m) := by
  induction n with
  | zero => intro a1 a2 a3 m hg; cases hg
  | succ n ih => intro a1 a2 a3 m hg; exact s_X7_isWell_2_b C hE ih a1 a2 a3 m hg
theorem c_X7_isWell {w : rf_w} {m : rf_m} {a1 : Int32} {a2 : Int32} {r : Int32 × rf_m} (hg : g_X7_isWell w m a1 a2 = some r) : rf_Con j_X7_isWell 2 (rf_sh w) [.ref 50, .int a1, .int a2] (rf_MM w m) (some (.int r.1)) (rf_MM w r.2) := by
  refine rf_con j_X7_isWell 2 ⟨by decide +kernel, rfl, Nat.le_of_ble_eq_true rfl⟩ (fun K C hE => ?_)
  unfold g_X7_isWell at hg
  show rf_V 5 (rf_sh w) K 0 0 0 ([(0, .ref 50), (1, .int a1), (2, .int a2)], [], rf_MM w m)
  refine rf_seg C [(.iconst 0, 1), (.istore 3, 1)] (pc' := 2) (S' := ([(3, .int 0), (0, .ref 50), (1, .int a1), (2, .int a2)], [], rf_MM w m)) (by decide +kernel) rfl trivial ?_
  refine rf_few [1, 2, 3, 0] rfl ?_
  exact s_X7_isWell_2 C hE rf_fuel a1 a2 0 m hg
-- X4_isAble
abbrev j_X4_isAble : rf_J := (4, yX4_isAble, cX4_isAble, 5, (some .boolean))
theorem mw_X4_isAble : rf_mv j_X4_isAble (rf_R 4) 1 := ⟨⟨rf_mem 76 (by decide +kernel), rf_mem 77 (by decide +kernel), rf_mem 1 (by decide +kernel), rf_mem 77 (by decide +kernel)⟩, by decide +kernel, by decide⟩
def g_X4_isAble_2_b (w : rf_w) (rec2 : Int32 → Int32 → rf_m → Option (Int32 × rf_m)) (a1 : Int32) (a2 : Int32) (m : rf_m) : Option (Int32 × rf_m) := (if 3 ≤ a2 then some (1, m) else rf_b (g_X7_cornerOf w m a1 a2) fun y0 m0 => rf_b (g_X3_tallyOf w m0 y0 2) fun y1 m1 => (if y1 < 36000 then some (0, m1) else rf_b (g_X3_tallyOf w m1 y0 3) fun y2 m2 => (if y2 ≤ 6444000 then rec2 a1 (a2 + 1) m2 else some (0, m2))))
def g_X4_isAble_2 (w : rf_w) : Nat → Int32 → Int32 → rf_m → Option (Int32 × rf_m)
  | 0, _, _, _ => none
  | n + 1, a1, a2, m => g_X4_isAble_2_b w (g_X4_isAble_2 w n) a1 a2 m
def g_X4_isAble (w : rf_w) (m : rf_m) (a1 : Int32) : Option (Int32 × rf_m) := g_X4_isAble_2 w rf_fuel a1 0 m
theorem s_X4_isAble_2_b {w : rf_w} {K : rf_K} {r : Int32 × rf_m} (C : rf_Ctx 4 cX4_isAble 5 2 (rf_sh w) K) (hE : rf_End (some .boolean) K (rf_sh w) 0 0 (some (.int r.1)) (rf_MM w r.2)) {rec2 : Int32 → Int32 → rf_m → Option (Int32 × rf_m)} (hr2 : ∀ (a1 : Int32) (a2 : Int32) (m : rf_m), rec2 a1 a2 m = some r → rf_V 5 (rf_sh w) K 0 0 2 ([(0, .ref 175), (1, .int a1), (2, .int a2)], [], rf_MM w m)) (a1 : Int32) (a2 : Int32) (m : rf_m) (hg : g_X4_isAble_2_b w rec2 a1 a2 m = some r) : rf_V 5 (rf_sh w) K 0 0 2 ([(0, .ref 175), (1, .int a1), (2, .int a2)], [], rf_MM w m) := by
  unfold g_X4_isAble_2_b at hg
  refine rf_seg C [(.iload 2, 1), (.iconst 3, 1)] (pc' := 4) (S' := ([(0, .ref 175), (1, .int a1), (2, .int a2)], [.int 3, .int a2], rf_MM w m)) (by decide +kernel) rfl trivial ?_
  refine rf_icmp_ge C 53 57 (by decide +kernel) (fun hc => ?_) (fun hc => ?_)
  · replace hg := (if_pos hc).symm.trans hg
    refine rf_seg C [(.iconst 1, 1)] (pc' := 58) (S' := ([(0, .ref 175), (1, .int a1), (2, .int a2)], [.int 1], rf_MM w m)) (by decide +kernel) rfl trivial ?_
    obtain rfl := Option.some.inj hg
    exact rf_zret C hE (by decide) (by decide +kernel)
  · replace hg := (if_neg hc).symm.trans hg
    refine rf_seg C [(.aload 0, 1), (.invokeinterface 4 5, 3), (.iload 1, 1), (.iload 2, 1)] (pc' := 13) (S' := ([(0, .ref 175), (1, .int a1), (2, .int a2)], [.int a2, .int a1, .ref 50], rf_MM w m)) (by decide +kernel) rfl trivial ?_
    obtain ⟨y0, m0, hc0, hg⟩ := rf_b_some hg
    refine rf_callv C rf_fit0 j_X7_cornerOf (ci := 7) (As := [.int a1, .int a2]) (rest := []) mw_X7_cornerOf (c_X7_cornerOf hc0) (by decide) rfl (by decide) lk_4_125 rfl rfl (Nat.le_of_ble_eq_true rfl) (by decide +kernel) ?_
    show rf_V 5 (rf_sh w) K 0 0 16 ([(0, .ref 175), (1, .int a1), (2, .int a2)], [.int y0], rf_MM w m0)
    refine rf_seg C [(.istore 3, 1), (.aload 0, 1), (.invokeinterface 4 4, 3), (.iload 3, 1), (.iconst 2, 1)] (pc' := 23) (S' := ([(3, .int y0), (0, .ref 175), (1, .int a1), (2, .int a2)], [.int 2, .int y0, .ref 26], rf_MM w m0)) (by decide +kernel) rfl trivial ?_
    obtain ⟨y1, m1, hc1, hg⟩ := rf_b_some hg
    refine rf_callv C rf_fit0 j_X3_tallyOf (ci := 3) (As := [.int y0, .int 2]) (rest := []) mw_X3_tallyOf (c_X3_tallyOf hc1) (by decide) rfl (by decide) lk_4_130 rfl rfl (Nat.le_of_ble_eq_true rfl) (by decide +kernel) ?_
    show rf_V 5 (rf_sh w) K 0 0 26 ([(3, .int y0), (0, .ref 175), (1, .int a1), (2, .int a2)], [.int y1], rf_MM w m1)
    refine rf_seg C [(.istore 4, 2), (.iload 4, 2), (.iconst 36000, 2)] (pc' := 32) (S' := ([(4, .int y1), (3, .int y0), (0, .ref 175), (1, .int a1), (2, .int a2)], [.int 36000, .int y1], rf_MM w m1)) (by decide +kernel) rfl trivial ?_
    refine rf_icmp_lt C 17 49 (by decide +kernel) (fun hc => ?_) (fun hc => ?_)
    · replace hg := (if_pos hc).symm.trans hg
      refine rf_seg C [(.iconst 0, 1)] (pc' := 50) (S' := ([(4, .int y1), (3, .int y0), (0, .ref 175), (1, .int a1), (2, .int a2)], [.int 0], rf_MM w m1)) (by decide +kernel) rfl trivial ?_
      obtain rfl := Option.some.inj hg
      exact rf_zret C hE (by decide) (by decide +kernel)
    · replace hg := (if_neg hc).symm.trans hg
      refine rf_seg C [(.aload 0, 1), (.invokeinterface 4 4, 3), (.iload 3, 1), (.iconst 3, 1)] (pc' := 41) (S' := ([(4, .int y1), (3, .int y0), (0, .ref 175), (1, .int a1), (2, .int a2)], [.int 3, .int y0, .ref 26], rf_MM w m1)) (by decide +kernel) rfl trivial ?_
      obtain ⟨y2, m2, hc2, hg⟩ := rf_b_some hg
      refine rf_callv C rf_fit0 j_X3_tallyOf (ci := 3) (As := [.int y0, .int 3]) (rest := []) mw_X3_tallyOf (c_X3_tallyOf hc2) (by decide) rfl (by decide) lk_4_130 rfl rfl (Nat.le_of_ble_eq_true rfl) (by decide +kernel) ?_
      show rf_V 5 (rf_sh w) K 0 0 44 ([(4, .int y1), (3, .int y0), (0, .ref 175), (1, .int a1), (2, .int a2)], [.int y2], rf_MM w m2)
      refine rf_seg C [(.iconst 6444000, 2)] (pc' := 46) (S' := ([(4, .int y1), (3, .int y0), (0, .ref 175), (1, .int a1), (2, .int a2)], [.int 6444000, .int y2], rf_MM w m2)) (by decide +kernel) rfl trivial ?_
      refine rf_icmp_le C 5 51 (by decide +kernel) (fun hc => ?_) (fun hc => ?_)
      · replace hg := (if_pos hc).symm.trans hg
        refine rf_seg C [(.iinc 2 1, 3)] (pc' := 54) (S' := ([(2, .int (a2 + 1)), (4, .int y1), (3, .int y0), (0, .ref 175), (1, .int a1)], [], rf_MM w m2)) (by decide +kernel) rfl trivial ?_
        refine rf_goto C (-52) 2 (by decide +kernel) ?_
        refine rf_few [3, 4, 0] rfl ?_
        exact hr2 a1 (a2 + 1) m2 hg
      · replace hg := (if_neg hc).symm.trans hg
        refine rf_seg C [(.iconst 0, 1)] (pc' := 50) (S' := ([(4, .int y1), (3, .int y0), (0, .ref 175), (1, .int a1), (2, .int a2)], [.int 0], rf_MM w m2)) (by decide +kernel) rfl trivial ?_
        obtain rfl := Option.some.inj hg
        exact rf_zret C hE (by decide) (by decide +kernel)
theorem s_X4_isAble_2 {w : rf_w} {K : rf_K} {r : Int32 × rf_m} (C : rf_Ctx 4 cX4_isAble 5 2 (rf_sh w) K) (hE : rf_End (some .boolean) K (rf_sh w) 0 0 (some (.int r.1)) (rf_MM w r.2)) (n : Nat) : ∀ (a1 : Int32) (a2 : Int32) (m : rf_m), g_X4_isAble_2 w n a1 a2 m = some r → rf_V 5 (rf_sh w) K 0 0 2 ([(0, .ref 175), (1, .int a1), (2, .int a2)], [], rf_MM w m) := by
  induction n with
  | zero => intro a1 a2 m hg; cases hg
  | succ n ih => intro a1 a2 m hg; exact s_X4_isAble_2_b C hE ih a1 a2 m hg
theorem c_X4_isAble {w : rf_w} {m : rf_m} {a1 : Int32} {r : Int32 × rf_m} (hg : g_X4_isAble w m a1 = some r) : rf_Con j_X4_isAble 2 (rf_sh w) [.ref 175, .int a1] (rf_MM w m) (some (.int r.1)) (rf_MM w r.2) := by
  refine rf_con j_X4_isAble 2 ⟨by decide +kernel, rfl, Nat.le_of_ble_eq_true rfl⟩ (fun K C hE => ?_)
  unfold g_X4_isAble at hg
  show rf_V 5 (rf_sh w) K 0 0 0 ([(0, .ref 175), (1, .int a1)], [], rf_MM w m)
  refine rf_seg C [(.iconst 0, 1), (.istore 2, 1)] (pc' := 2) (S' := ([(2, .int 0), (0, .ref 175), (1, .int a1)], [], rf_MM w m)) (by decide +kernel) rfl trivial ?_
  refine rf_few [1, 2, 0] rfl ?_
  exact s_X4_isAble_2 C hE rf_fuel a1 0 m hg
-- X11_sideOf
abbrev j_X11_sideOf : rf_J := (11, yX11_sideOf, cX11_sideOf, 2, (some .int))
theorem mw_X11_sideOf : rf_ms j_X11_sideOf 2 := ⟨⟨rf_mem 53 (by decide +kernel), rf_mem 0 (by decide +kernel), rf_mem 53 (by decide +kernel)⟩, by decide +kernel, by decide⟩
def g_X11_sideOf (w : rf_w) (m : rf_m) (a0 : Int32) (a1 : Int32) : Option (Int32 × rf_m) := rf_b (g_min w m a0 a1) fun y0 m0 => rf_b (g_max w m0 a0 a1) fun y1 m1 => some ((y0 * 32) + y1, m1)
theorem c_X11_sideOf {w : rf_w} {m : rf_m} {a0 : Int32} {a1 : Int32} {r : Int32 × rf_m} (hg : g_X11_sideOf w m a0 a1 = some r) : rf_Con j_X11_sideOf 2 (rf_sh w) [.int a0, .int a1] (rf_MM w m) (some (.int r.1)) (rf_MM w r.2) := by
  refine rf_con j_X11_sideOf 2 ⟨by decide +kernel, rfl, Nat.le_of_ble_eq_true rfl⟩ (fun K C hE => ?_)
  unfold g_X11_sideOf at hg
  show rf_V 2 (rf_sh w) K 0 0 0 ([(0, .int a0), (1, .int a1)], [], rf_MM w m)
  refine rf_seg C [(.iload 0, 1), (.iload 1, 1)] (pc' := 2) (S' := ([(0, .int a0), (1, .int a1)], [.int a1, .int a0], rf_MM w m)) (by decide +kernel) rfl trivial ?_
  obtain ⟨y0, m0, hc0, hg⟩ := rf_b_some hg
  refine rf_calls C rf_fit0 j_min (As := [.int a0, .int a1]) (rest := []) mw_min (c_min hc0) (by decide) lk_11_506 rfl rfl (Nat.le_of_ble_eq_true rfl) (by decide +kernel) ?_
  show rf_V 2 (rf_sh w) K 0 0 5 ([(0, .int a0), (1, .int a1)], [.int y0], rf_MM w m0)
  refine rf_seg C [(.iconst 32, 2), (.imul, 1), (.iload 0, 1), (.iload 1, 1)] (pc' := 10) (S' := ([(0, .int a0), (1, .int a1)], [.int a1, .int a0, .int (y0 * 32)], rf_MM w m0)) (by decide +kernel) rfl trivial ?_
  obtain ⟨y1, m1, hc1, hg⟩ := rf_b_some hg
  refine rf_calls C rf_fit0 j_max (As := [.int a0, .int a1]) (rest := [.int (y0 * 32)]) mw_max (c_max hc1) (by decide) lk_11_511 rfl rfl (Nat.le_of_ble_eq_true rfl) (by decide +kernel) ?_
  show rf_V 2 (rf_sh w) K 0 0 13 ([(0, .int a0), (1, .int a1)], [.int y1, .int (y0 * 32)], rf_MM w m1)
  refine rf_seg C [(.iadd, 1)] (pc' := 14) (S' := ([(0, .int a0), (1, .int a1)], [.int ((y0 * 32) + y1)], rf_MM w m1)) (by decide +kernel) rfl trivial ?_
  obtain rfl := Option.some.inj hg
  exact rf_iret C hE (by decide +kernel)
-- X7_opposite
abbrev j_X7_opposite : rf_J := (7, yX7_opposite, cX7_opposite, 4, (some .int))
theorem mw_X7_opposite : rf_mv j_X7_opposite (rf_R 7) 2 := ⟨⟨rf_mem 77 (by decide +kernel), rf_mem 77 (by decide +kernel), rf_mem 1 (by decide +kernel), rf_mem 77 (by decide +kernel)⟩, by decide +kernel, by decide⟩
def g_X7_opposite (w : rf_w) (m : rf_m) (a1 : Int32) (a2 : Int32) : Option (Int32 × rf_m) := rf_b (g_X7_cornerOf w m a1 a2) fun y0 m0 => rf_g (rf_in y0 80) (rf_g (rf_in y0 80) (rf_b (g_X11_sideOf w m0 (m0.1 29 (Int32.toNatClampNeg y0)) (m0.1 30 (Int32.toNatClampNeg y0))) fun y3 m3 => some (y3, m3)))
theorem c_X7_opposite {w : rf_w} {m : rf_m} {a1 : Int32} {a2 : Int32} {r : Int32 × rf_m} (hg : g_X7_opposite w m a1 a2 = some r) : rf_Con j_X7_opposite 3 (rf_sh w) [.ref 50, .int a1, .int a2] (rf_MM w m) (some (.int r.1)) (rf_MM w r.2) := by
  refine rf_con j_X7_opposite 3 ⟨by decide +kernel, rfl, Nat.le_of_ble_eq_true rfl⟩ (fun K C hE => ?_)
  unfold g_X7_opposite at hg
  show rf_V 4 (rf_sh w) K 0 0 0 ([(0, .ref 50), (1, .int a1), (2, .int a2)], [], rf_MM w m)
  refine rf_seg C [(.aload 0, 1), (.iload 1, 1), (.iload 2, 1)] (pc' := 3) (S' := ([(0, .ref 50), (1, .int a1), (2, .int a2)], [.int a2, .int a1, .ref 50], rf_MM w m)) (by decide +kernel) rfl trivial ?_
  obtain ⟨y0, m0, hc0, hg⟩ := rf_b_some hg
  refine rf_callv C rf_fit0 j_X7_cornerOf (ci := 7) (As := [.int a1, .int a2]) (rest := []) mw_X7_cornerOf (c_X7_cornerOf hc0) (by decide) rfl (by decide) lk_7_60 rfl rfl (Nat.le_of_ble_eq_true rfl) (by decide +kernel) ?_
  show rf_V 4 (rf_sh w) K 0 0 6 ([(0, .ref 50), (1, .int a1), (2, .int a2)], [.int y0], rf_MM w m0)
  obtain ⟨q1, hg⟩ := rf_g_some hg
  obtain ⟨q2, hg⟩ := rf_g_some hg
  refine rf_seg C [(.istore 3, 1), (.aload 0, 1), (.invokeinterface 7 2, 3), (.invokeinterface 3 2, 3), (.iload 3, 1), (.iaload, 1), (.aload 0, 1), (.invokeinterface 7 2, 3), (.invokeinterface 3 3, 3), (.iload 3, 1), (.iaload, 1)] (pc' := 25) (S' := ([(3, .int y0), (0, .ref 50), (1, .int a1), (2, .int a2)], [.int (m0.1 30 (Int32.toNatClampNeg y0)), .int (m0.1 29 (Int32.toNatClampNeg y0))], rf_MM w m0)) (by decide +kernel) rfl (by exact ⟨(rf_in_of q1), (rf_in_of q2)⟩) ?_
  obtain ⟨y3, m3, hc3, hg⟩ := rf_b_some hg
  refine rf_callsN C rf_fit0 j_X11_sideOf (As := [.int (m0.1 29 (Int32.toNatClampNeg y0)), .int (m0.1 30 (Int32.toNatClampNeg y0))]) (rest := []) mw_X11_sideOf (c_X11_sideOf hc3) (by decide) lk_7_64 rfl rfl (Nat.le_of_ble_eq_true rfl) (by decide +kernel) ?_
  show rf_V 4 (rf_sh w) K 0 0 28 ([(3, .int y0), (0, .ref 50), (1, .int a1), (2, .int a2)], [.int y3], rf_MM w m3)
  obtain rfl := Option.some.inj hg
  exact rf_iret C hE (by decide +kernel)
-- X11_sineOf
abbrev j_X11_sineOf : rf_J := (11, yX11_sineOf, cX11_sineOf, 3, (some .int))
theorem mw_X11_sineOf : rf_ms j_X11_sineOf 1 := ⟨⟨rf_mem 75 (by decide +kernel), rf_mem 0 (by decide +kernel), rf_mem 75 (by decide +kernel)⟩, by decide +kernel, by decide⟩
def g_X11_sineOf (w : rf_w) (m : rf_m) (a0 : Int32) : Option (Int32 × rf_m) := rf_vl ((Int32.toInt64 a0) * (Int32.toInt64 (648000 - a0))) fun x0 => rf_g (rf_nzl (524880000000 - x0)) (some (Int64.toInt32 ((4000000 * x0) / (524880000000 - x0)), m))
theorem c_X11_sineOf {w : rf_w} {m : rf_m} {a0 : Int32} {r : Int32 × rf_m} (hg : g_X11_sineOf w m a0 = some r) : rf_Con j_X11_sineOf 1 (rf_sh w) [.int a0] (rf_MM w m) (some (.int r.1)) (rf_MM w r.2) := by
  refine rf_con j_X11_sineOf 1 ⟨by decide +kernel, rfl, Nat.le_of_ble_eq_true rfl⟩ (fun K C hE => ?_)
  unfold g_X11_sineOf at hg
  show rf_V 3 (rf_sh w) K 0 0 0 ([(0, .int a0)], [], rf_MM w m)
  refine rf_seg C [(.iload 0, 1), (.i2l, 1), (.iconst 648000, 3), (.iload 0, 1), (.isub, 1), (.i2l, 1), (.lmul, 1)] (pc' := 9) (S' := ([(0, .int a0)], [.long ((Int32.toInt64 a0) * (Int32.toInt64 (648000 - a0)))], rf_MM w m)) (by decide +kernel) rfl trivial ?_
  obtain ⟨x0, hx0, hg⟩ := rf_vl_some hg
  refine rf_vl_top hx0 ?_
  obtain ⟨q1, hg⟩ := rf_g_some hg
  refine rf_seg C [(.lstore 1, 1), (.goto_w 4000000, 3), (.lload 1, 1), (.lmul, 1), (.goto_w 524880000000, 3), (.lload 1, 1), (.lsub, 1), (.ldiv, 1), (.l2i, 1)] (pc' := 22) (S' := ([(1, .long x0), (0, .int a0)], [.int (Int64.toInt32 ((4000000 * x0) / (524880000000 - x0)))], rf_MM w m)) (by decide +kernel) rfl (rf_nzl_of q1) ?_
  obtain rfl := Option.some.inj hg
  exact rf_iret C hE (by decide +kernel)
-- X4_takeUp
abbrev j_X4_takeUp : rf_J := (4, yX4_takeUp, cX4_takeUp, 9, none)
theorem mw_X4_takeUp : rf_mv j_X4_takeUp (rf_R 4) 1 := ⟨⟨rf_mem 77 (by decide +kernel), rf_mem 77 (by decide +kernel), rf_mem 1 (by decide +kernel), rf_mem 77 (by decide +kernel)⟩, by decide +kernel, by decide⟩
def g_X4_takeUp_154 (w : rf_w) (rec2 : Int32 → Int32 → rf_m → Option (rf_m)) (a1 : Int32) (a2 : Int32) (s1 : Int32) (s2 : Int32) (m : rf_m) : Option (rf_m) := rf_g (rf_in s1 24) (rec2 a1 (a2 + 1) (rf_i m 180 (Int32.toNatClampNeg s1) s2))
def g_X4_takeUp_78 (w : rf_w) (rec2 : Int32 → Int32 → rf_m → Option (rf_m)) (a1 : Int32) (a2 : Int32) (a6 : Int32) (a7 : Int32) (s0 : Int32) (m : rf_m) : Option (rf_m) := rf_b (g_X7_opposite w m a1 a2) fun y0 m0 => rf_g (rf_in (((m.1 175 8) * 3) + a2) 24) (rf_b (g_min w (rf_i m0 178 (Int32.toNatClampNeg (((m.1 175 8) * 3) + a2)) y0) a6 a7) fun y2 m2 => rf_g (rf_in ((((rf_i m0 178 (Int32.toNatClampNeg (((m.1 175 8) * 3) + a2)) y0).1 175 8) * 3) + a2) 24) ((if s0 = 0 then rf_b (g_max w (rf_i m2 179 (Int32.toNatClampNeg ((((rf_i m0 178 (Int32.toNatClampNeg (((m.1 175 8) * 3) + a2)) y0).1 175 8) * 3) + a2)) y2) a6 a7) fun y4 m4 => g_X4_takeUp_154 w rec2 a1 a2 ((((rf_i m2 179 (Int32.toNatClampNeg ((((rf_i m0 178 (Int32.toNatClampNeg (((m.1 175 8) * 3) + a2)) y0).1 175 8) * 3) + a2)) y2).1 175 8) * 3) + a2) y4 m4 else rf_b (g_X11_sineOf w (rf_i m2 179 (Int32.toNatClampNeg ((((rf_i m0 178 (Int32.toNatClampNeg (((m.1 175 8) * 3) + a2)) y0).1 175 8) * 3) + a2)) y2) 324000) fun y5 m5 => g_X4_takeUp_154 w rec2 a1 a2 ((((rf_i m2 179 (Int32.toNatClampNeg ((((rf_i m0 178 (Int32.toNatClampNeg (((m.1 175 8) * 3) + a2)) y0).1 175 8) * 3) + a2)) y2).1 175 8) * 3) + a2) y5 m5)))
def g_X4_takeUp_77 (w : rf_w) (rec2 : Int32 → Int32 → rf_m → Option (rf_m)) (a1 : Int32) (a2 : Int32) (a6 : Int32) (a7 : Int32) (m : rf_m) : Option (rf_m) := g_X4_takeUp_78 w rec2 a1 a2 a6 a7 0 m
def g_X4_takeUp_2_b (w : rf_w) (rec2 : Int32 → Int32 → rf_m → Option (rf_m)) (a1 : Int32) (a2 : Int32) (m : rf_m) : Option (rf_m) := (if 3 ≤ a2 then rf_g (rf_in (m.1 175 8) 8) (some (rf_i (rf_i m 177 (Int32.toNatClampNeg (m.1 175 8)) a1) 175 8 (((rf_i m 177 (Int32.toNatClampNeg (m.1 175 8)) a1).1 175 8) + 1))) else rf_b (g_X7_cornerOf w m a1 a2) fun y1 m1 => rf_b (g_X3_tallyOf w m1 y1 2) fun y2 m2 => rf_b (g_X3_tallyOf w m2 y1 3) fun y3 m3 => rf_b (g_X11_sineOf w m3 (y2 / 10)) fun y4 m4 => rf_b (g_X11_sineOf w m4 (y3 / 10)) fun y5 m5 => (if 324000 < (y2 / 10) then g_X4_takeUp_77 w rec2 a1 a2 y4 y5 m5 else (if (y3 / 10) < (324000 : Int32) then g_X4_takeUp_77 w rec2 a1 a2 y4 y5 m5 else g_X4_takeUp_78 w rec2 a1 a2 y4 y5 1 m5)))
def g_X4_takeUp_2 (w : rf_w) : Nat → Int32 → Int32 → rf_m → Option (rf_m)
  | 0, _, _, _ => none
  | n + 1, a1, a2, m => g_X4_takeUp_2_b w (g_X4_takeUp_2 w n) a1 a2 m
def g_X4_takeUp (w : rf_w) (m : rf_m) (a1 : Int32) : Option (rf_m) := g_X4_takeUp_2 w rf_fuel a1 0 m
theorem s_X4_takeUp_154 {w : rf_w} {K : rf_K} {r : rf_m} (C : rf_Ctx 4 cX4_takeUp 9 4 (rf_sh w) K) (hE : rf_End none K (rf_sh w) 0 0 none (rf_MM w r)) {rec2 : Int32 → Int32 → rf_m → Option (rf_m)} (hr2 : ∀ (a1 : Int32) (a2 : Int32) (m : rf_m), rec2 a1 a2 m = some r → rf_V 9 (rf_sh w) K 0 0 2 ([(0, .ref 175), (1, .int a1), (2, .int a2)], [], rf_MM w m)) (a1 : Int32) (a2 : Int32) (s1 : Int32) (s2 : Int32) (m : rf_m) (hg : g_X4_takeUp_154 w rec2 a1 a2 s1 s2 m = some r) : rf_V 9 (rf_sh w) K 0 0 154 ([(0, .ref 175), (1, .int a1), (2, .int a2)], [.int s2, .int s1, .ref 180], rf_MM w m) := by
  unfold g_X4_takeUp_154 at hg
  obtain ⟨q0, hg⟩ := rf_g_some hg
  refine rf_seg C [(.iastore, 1), (.iinc 2 1, 3)] (pc' := 158) (S' := ([(2, .int (a2 + 1)), (0, .ref 175), (1, .int a1)], [], rf_MM w (rf_i m 180 (Int32.toNatClampNeg s1) s2))) (by decide +kernel) rfl (rf_in_of q0) ?_
  refine rf_goto C (-156) 2 (by decide +kernel) ?_
  refine rf_few [1, 2, 0] rfl ?_
  exact hr2 a1 (a2 + 1) (rf_i m 180 (Int32.toNatClampNeg s1) s2) hg
theorem s_X4_takeUp_78 {w : rf_w} {K : rf_K} {r : rf_m} (C : rf_Ctx 4 cX4_takeUp 9 4 (rf_sh w) K) (hE : rf_End none K (rf_sh w) 0 0 none (rf_MM w r)) {rec2 : Int32 → Int32 → rf_m → Option (rf_m)} (hr2 : ∀ (a1 : Int32) (a2 : Int32) (m : rf_m), rec2 a1 a2 m = some r → rf_V 9 (rf_sh w) K 0 0 2 ([(0, .ref 175), (1, .int a1), (2, .int a2)], [], rf_MM w m)) (a1 : Int32) (a2 : Int32) (a6 : Int32) (a7 : Int32) (s0 : Int32) (m : rf_m) (hg : g_X4_takeUp_78 w rec2 a1 a2 a6 a7 s0 m = some r) : rf_V 9 (rf_sh w) K 0 0 78 ([(0, .ref 175), (1, .int a1), (2, .int a2), (6, .int a6), (7, .int a7)], [.int s0], rf_MM w m) := by
  unfold g_X4_takeUp_78 at hg
  refine rf_seg C [(.istore 8, 2), (.aload 0, 1), (.invokeinterface 4 9, 3), (.aload 0, 1), (.invokeinterface 4 8, 3), (.iconst 3, 1), (.imul, 1), (.iload 2, 1), (.iadd, 1), (.aload 0, 1), (.invokeinterface 4 5, 3), (.iload 1, 1), (.iload 2, 1)] (pc' := 98) (S' := ([(8, .int s0), (0, .ref 175), (1, .int a1), (2, .int a2), (6, .int a6), (7, .int a7)], [.int a2, .int a1, .ref 50, .int (((m.1 175 8) * 3) + a2), .ref 178], rf_MM w m)) (by decide +kernel) rfl trivial ?_
  obtain ⟨y0, m0, hc0, hg⟩ := rf_b_some hg
  refine rf_callv C rf_fit0 j_X7_opposite (ci := 7) (As := [.int a1, .int a2]) (rest := [.int (((m.1 175 8) * 3) + a2), .ref 178]) mw_X7_opposite (c_X7_opposite hc0) (by decide) rfl (by decide) lk_4_139 rfl rfl (Nat.le_of_ble_eq_true rfl) (by decide +kernel) ?_
  show rf_V 9 (rf_sh w) K 0 0 101 ([(8, .int s0), (0, .ref 175), (1, .int a1), (2, .int a2), (6, .int a6), (7, .int a7)], [.int y0, .int (((m.1 175 8) * 3) + a2), .ref 178], rf_MM w m0)
  obtain ⟨q1, hg⟩ := rf_g_some hg
  refine rf_seg C [(.iastore, 1), (.aload 0, 1), (.invokeinterface 4 10, 3), (.aload 0, 1), (.invokeinterface 4 8, 3), (.iconst 3, 1), (.imul, 1), (.iload 2, 1), (.iadd, 1), (.iload 6, 2), (.iload 7, 2)] (pc' := 118) (S' := ([(8, .int s0), (0, .ref 175), (1, .int a1), (2, .int a2), (6, .int a6), (7, .int a7)], [.int a7, .int a6, .int ((((rf_i m0 178 (Int32.toNatClampNeg (((m.1 175 8) * 3) + a2)) y0).1 175 8) * 3) + a2), .ref 179], rf_MM w (rf_i m0 178 (Int32.toNatClampNeg (((m.1 175 8) * 3) + a2)) y0))) (by decide +kernel) rfl (rf_in_of q1) ?_
  obtain ⟨y2, m2, hc2, hg⟩ := rf_b_some hg
  refine rf_calls C rf_fit0 j_min (As := [.int a6, .int a7]) (rest := [.int ((((rf_i m0 178 (Int32.toNatClampNeg (((m.1 175 8) * 3) + a2)) y0).1 175 8) * 3) + a2), .ref 179]) mw_min (c_min hc2) (by decide) lk_4_142 rfl rfl (Nat.le_of_ble_eq_true rfl) (by decide +kernel) ?_
  show rf_V 9 (rf_sh w) K 0 0 121 ([(8, .int s0), (0, .ref 175), (1, .int a1), (2, .int a2), (6, .int a6), (7, .int a7)], [.int y2, .int ((((rf_i m0 178 (Int32.toNatClampNeg (((m.1 175 8) * 3) + a2)) y0).1 175 8) * 3) + a2), .ref 179], rf_MM w m2)
  obtain ⟨q3, hg⟩ := rf_g_some hg
  refine rf_seg C [(.iastore, 1), (.aload 0, 1), (.invokeinterface 4 11, 3), (.aload 0, 1), (.invokeinterface 4 8, 3), (.iconst 3, 1), (.imul, 1), (.iload 2, 1), (.iadd, 1), (.iload 8, 2)] (pc' := 136) (S' := ([(8, .int s0), (0, .ref 175), (1, .int a1), (2, .int a2), (6, .int a6), (7, .int a7)], [.int s0, .int ((((rf_i m2 179 (Int32.toNatClampNeg ((((rf_i m0 178 (Int32.toNatClampNeg (((m.1 175 8) * 3) + a2)) y0).1 175 8) * 3) + a2)) y2).1 175 8) * 3) + a2), .ref 180], rf_MM w (rf_i m2 179 (Int32.toNatClampNeg ((((rf_i m0 178 (Int32.toNatClampNeg (((m.1 175 8) * 3) + a2)) y0).1 175 8) * 3) + a2)) y2))) (by decide +kernel) rfl (rf_in_of q3) ?_
  refine rf_if_eq C 11 147 (by decide +kernel) (fun hc => ?_) (fun hc => ?_)
  · replace hg := (if_pos hc).symm.trans hg
    refine rf_seg C [(.iload 6, 2), (.iload 7, 2)] (pc' := 151) (S' := ([(8, .int s0), (0, .ref 175), (1, .int a1), (2, .int a2), (6, .int a6), (7, .int a7)], [.int a7, .int a6, .int ((((rf_i m2 179 (Int32.toNatClampNeg ((((rf_i m0 178 (Int32.toNatClampNeg (((m.1 175 8) * 3) + a2)) y0).1 175 8) * 3) + a2)) y2).1 175 8) * 3) + a2), .ref 180], rf_MM w (rf_i m2 179 (Int32.toNatClampNeg ((((rf_i m0 178 (Int32.toNatClampNeg (((m.1 175 8) * 3) + a2)) y0).1 175 8) * 3) + a2)) y2))) (by decide +kernel) rfl trivial ?_
    obtain ⟨y4, m4, hc4, hg⟩ := rf_b_some hg
    refine rf_calls C rf_fit0 j_max (As := [.int a6, .int a7]) (rest := [.int ((((rf_i m2 179 (Int32.toNatClampNeg ((((rf_i m0 178 (Int32.toNatClampNeg (((m.1 175 8) * 3) + a2)) y0).1 175 8) * 3) + a2)) y2).1 175 8) * 3) + a2), .ref 180]) mw_max (c_max hc4) (by decide) lk_4_100 rfl rfl (Nat.le_of_ble_eq_true rfl) (by decide +kernel) ?_
    show rf_V 9 (rf_sh w) K 0 0 154 ([(8, .int s0), (0, .ref 175), (1, .int a1), (2, .int a2), (6, .int a6), (7, .int a7)], [.int y4, .int ((((rf_i m2 179 (Int32.toNatClampNeg ((((rf_i m0 178 (Int32.toNatClampNeg (((m.1 175 8) * 3) + a2)) y0).1 175 8) * 3) + a2)) y2).1 175 8) * 3) + a2), .ref 180], rf_MM w m4)
    refine rf_few [1, 2, 3] rfl ?_
    exact s_X4_takeUp_154 C hE hr2 a1 a2 ((((rf_i m2 179 (Int32.toNatClampNeg ((((rf_i m0 178 (Int32.toNatClampNeg (((m.1 175 8) * 3) + a2)) y0).1 175 8) * 3) + a2)) y2).1 175 8) * 3) + a2) y4 m4 hg
  · replace hg := (if_neg hc).symm.trans hg
    refine rf_seg C [(.iconst 324000, 2)] (pc' := 141) (S' := ([(8, .int s0), (0, .ref 175), (1, .int a1), (2, .int a2), (6, .int a6), (7, .int a7)], [.int 324000, .int ((((rf_i m2 179 (Int32.toNatClampNeg ((((rf_i m0 178 (Int32.toNatClampNeg (((m.1 175 8) * 3) + a2)) y0).1 175 8) * 3) + a2)) y2).1 175 8) * 3) + a2), .ref 180], rf_MM w (rf_i m2 179 (Int32.toNatClampNeg ((((rf_i m0 178 (Int32.toNatClampNeg (((m.1 175 8) * 3) + a2)) y0).1 175 8) * 3) + a2)) y2))) (by decide +kernel) rfl trivial ?_
    obtain ⟨y5, m5, hc5, hg⟩ := rf_b_some hg
    refine rf_callsN C rf_fit0 j_X11_sineOf (As := [.int 324000]) (rest := [.int ((((rf_i m2 179 (Int32.toNatClampNeg ((((rf_i m0 178 (Int32.toNatClampNeg (((m.1 175 8) * 3) + a2)) y0).1 175 8) * 3) + a2)) y2).1 175 8) * 3) + a2), .ref 180]) mw_X11_sineOf (c_X11_sineOf hc5) (by decide) lk_4_135 rfl rfl (Nat.le_of_ble_eq_true rfl) (by decide +kernel) ?_
    show rf_V 9 (rf_sh w) K 0 0 144 ([(8, .int s0), (0, .ref 175), (1, .int a1), (2, .int a2), (6, .int a6), (7, .int a7)], [.int y5, .int ((((rf_i m2 179 (Int32.toNatClampNeg ((((rf_i m0 178 (Int32.toNatClampNeg (((m.1 175 8) * 3) + a2)) y0).1 175 8) * 3) + a2)) y2).1 175 8) * 3) + a2), .ref 180], rf_MM w m5)
    refine rf_goto C 10 154 (by decide +kernel) ?_
    refine rf_few [1, 2, 3] rfl ?_
    exact s_X4_takeUp_154 C hE hr2 a1 a2 ((((rf_i m2 179 (Int32.toNatClampNeg ((((rf_i m0 178 (Int32.toNatClampNeg (((m.1 175 8) * 3) + a2)) y0).1 175 8) * 3) + a2)) y2).1 175 8) * 3) + a2) y5 m5 hg
theorem s_X4_takeUp_77 {w : rf_w} {K : rf_K} {r : rf_m} (C : rf_Ctx 4 cX4_takeUp 9 4 (rf_sh w) K) (hE : rf_End none K (rf_sh w) 0 0 none (rf_MM w r)) {rec2 : Int32 → Int32 → rf_m → Option (rf_m)} (hr2 : ∀ (a1 : Int32) (a2 : Int32) (m : rf_m), rec2 a1 a2 m = some r → rf_V 9 (rf_sh w) K 0 0 2 ([(0, .ref 175), (1, .int a1), (2, .int a2)], [], rf_MM w m)) (a1 : Int32) (a2 : Int32) (a6 : Int32) (a7 : Int32) (m : rf_m) (hg : g_X4_takeUp_77 w rec2 a1 a2 a6 a7 m = some r) : rf_V 9 (rf_sh w) K 0 0 77 ([(0, .ref 175), (1, .int a1), (2, .int a2), (6, .int a6), (7, .int a7)], [], rf_MM w m) := by
  unfold g_X4_takeUp_77 at hg
  refine rf_seg C [(.iconst 0, 1)] (pc' := 78) (S' := ([(0, .ref 175), (1, .int a1), (2, .int a2), (6, .int a6), (7, .int a7)], [.int 0], rf_MM w m)) (by decide +kernel) rfl trivial ?_
  refine rf_few [0, 1, 2, 3, 4] rfl ?_
  exact s_X4_takeUp_78 C hE hr2 a1 a2 a6 a7 0 m hg
theorem s_X4_takeUp_2_b {w : rf_w} {K : rf_K} {r : rf_m} (C : rf_Ctx 4 cX4_takeUp 9 4 (rf_sh w) K) (hE : rf_End none K (rf_sh w) 0 0 none (rf_MM w r)) {rec2 : Int32 → Int32 → rf_m → Option (rf_m)} (hr2 : ∀ (a1 : Int32) (a2 : Int32) (m : rf_m), rec2 a1 a2 m = some r → rf_V 9 (rf_sh w) K 0 0 2 ([(0, .ref 175), (1, .int a1), (2, .int a2)], [], rf_MM w m)) (a1 : Int32) (a2 : Int32) (m : rf_m) (hg : g_X4_takeUp_2_b w rec2 a1 a2 m = some r) : rf_V 9 (rf_sh w) K 0 0 2 ([(0, .ref 175), (1, .int a1), (2, .int a2)], [], rf_MM w m) := by
  unfold g_X4_takeUp_2_b at hg
  refine rf_seg C [(.iload 2, 1), (.iconst 3, 1)] (pc' := 4) (S' := ([(0, .ref 175), (1, .int a1), (2, .int a2)], [.int 3, .int a2], rf_MM w m)) (by decide +kernel) rfl trivial ?_
  refine rf_icmp_ge C 157 161 (by decide +kernel) (fun hc => ?_) (fun hc => ?_)
  · replace hg := (if_pos hc).symm.trans hg
    obtain ⟨q0, hg⟩ := rf_g_some hg
    refine rf_seg C [(.aload 0, 1), (.invokeinterface 4 7, 3), (.aload 0, 1), (.invokeinterface 4 8, 3), (.iload 1, 1), (.iastore, 1), (.aload 0, 1), (.dup, 1), (.invokeinterface 4 8, 3), (.iconst 1, 1), (.iadd, 1), (.multianewarray 4 8, 3)] (pc' := 181) (S' := ([(0, .ref 175), (1, .int a1), (2, .int a2)], [], rf_MM w (rf_i (rf_i m 177 (Int32.toNatClampNeg (m.1 175 8)) a1) 175 8 (((rf_i m 177 (Int32.toNatClampNeg (m.1 175 8)) a1).1 175 8) + 1)))) (by decide +kernel) rfl (rf_in_of q0) ?_
    obtain rfl := Option.some.inj hg
    exact rf_vret C hE (by decide +kernel)
  · replace hg := (if_neg hc).symm.trans hg
    refine rf_seg C [(.aload 0, 1), (.invokeinterface 4 5, 3), (.iload 1, 1), (.iload 2, 1)] (pc' := 13) (S' := ([(0, .ref 175), (1, .int a1), (2, .int a2)], [.int a2, .int a1, .ref 50], rf_MM w m)) (by decide +kernel) rfl trivial ?_
    obtain ⟨y1, m1, hc1, hg⟩ := rf_b_some hg
    refine rf_callv C rf_fit0 j_X7_cornerOf (ci := 7) (As := [.int a1, .int a2]) (rest := []) mw_X7_cornerOf (c_X7_cornerOf hc1) (by decide) rfl (by decide) lk_4_125 rfl rfl (Nat.le_of_ble_eq_true rfl) (by decide +kernel) ?_
    show rf_V 9 (rf_sh w) K 0 0 16 ([(0, .ref 175), (1, .int a1), (2, .int a2)], [.int y1], rf_MM w m1)
    refine rf_seg C [(.istore 3, 1), (.aload 0, 1), (.invokeinterface 4 4, 3), (.iload 3, 1), (.iconst 2, 1)] (pc' := 23) (S' := ([(3, .int y1), (0, .ref 175), (1, .int a1), (2, .int a2)], [.int 2, .int y1, .ref 26], rf_MM w m1)) (by decide +kernel) rfl trivial ?_
    obtain ⟨y2, m2, hc2, hg⟩ := rf_b_some hg
    refine rf_callv C rf_fit0 j_X3_tallyOf (ci := 3) (As := [.int y1, .int 2]) (rest := []) mw_X3_tallyOf (c_X3_tallyOf hc2) (by decide) rfl (by decide) lk_4_130 rfl rfl (Nat.le_of_ble_eq_true rfl) (by decide +kernel) ?_
    show rf_V 9 (rf_sh w) K 0 0 26 ([(3, .int y1), (0, .ref 175), (1, .int a1), (2, .int a2)], [.int y2], rf_MM w m2)
    refine rf_seg C [(.iconst 10, 2), (.idiv, 1), (.istore 4, 2), (.aload 0, 1), (.invokeinterface 4 4, 3), (.iload 3, 1), (.iconst 3, 1)] (pc' := 37) (S' := ([(4, .int (y2 / 10)), (3, .int y1), (0, .ref 175), (1, .int a1), (2, .int a2)], [.int 3, .int y1, .ref 26], rf_MM w m2)) (by decide +kernel) rfl (rf_nz_of (by decide)) ?_
    obtain ⟨y3, m3, hc3, hg⟩ := rf_b_some hg
    refine rf_callv C rf_fit0 j_X3_tallyOf (ci := 3) (As := [.int y1, .int 3]) (rest := []) mw_X3_tallyOf (c_X3_tallyOf hc3) (by decide) rfl (by decide) lk_4_130 rfl rfl (Nat.le_of_ble_eq_true rfl) (by decide +kernel) ?_
    show rf_V 9 (rf_sh w) K 0 0 40 ([(4, .int (y2 / 10)), (3, .int y1), (0, .ref 175), (1, .int a1), (2, .int a2)], [.int y3], rf_MM w m3)
    refine rf_seg C [(.iconst 10, 2), (.idiv, 1), (.istore 5, 2), (.iload 4, 2)] (pc' := 47) (S' := ([(5, .int (y3 / 10)), (4, .int (y2 / 10)), (3, .int y1), (0, .ref 175), (1, .int a1), (2, .int a2)], [.int (y2 / 10)], rf_MM w m3)) (by decide +kernel) rfl (rf_nz_of (by decide)) ?_
    obtain ⟨y4, m4, hc4, hg⟩ := rf_b_some hg
    refine rf_callsN C rf_fit0 j_X11_sineOf (As := [.int (y2 / 10)]) (rest := []) mw_X11_sineOf (c_X11_sineOf hc4) (by decide) lk_4_135 rfl rfl (Nat.le_of_ble_eq_true rfl) (by decide +kernel) ?_
    show rf_V 9 (rf_sh w) K 0 0 50 ([(5, .int (y3 / 10)), (4, .int (y2 / 10)), (3, .int y1), (0, .ref 175), (1, .int a1), (2, .int a2)], [.int y4], rf_MM w m4)
    refine rf_seg C [(.istore 6, 2), (.iload 5, 2)] (pc' := 54) (S' := ([(6, .int y4), (5, .int (y3 / 10)), (4, .int (y2 / 10)), (3, .int y1), (0, .ref 175), (1, .int a1), (2, .int a2)], [.int (y3 / 10)], rf_MM w m4)) (by decide +kernel) rfl trivial ?_
    obtain ⟨y5, m5, hc5, hg⟩ := rf_b_some hg
    refine rf_callsN C rf_fit0 j_X11_sineOf (As := [.int (y3 / 10)]) (rest := []) mw_X11_sineOf (c_X11_sineOf hc5) (by decide) lk_4_135 rfl rfl (Nat.le_of_ble_eq_true rfl) (by decide +kernel) ?_
    show rf_V 9 (rf_sh w) K 0 0 57 ([(6, .int y4), (5, .int (y3 / 10)), (4, .int (y2 / 10)), (3, .int y1), (0, .ref 175), (1, .int a1), (2, .int a2)], [.int y5], rf_MM w m5)
    refine rf_seg C [(.istore 7, 2), (.iload 4, 2), (.iconst 324000, 2)] (pc' := 63) (S' := ([(7, .int y5), (6, .int y4), (5, .int (y3 / 10)), (4, .int (y2 / 10)), (3, .int y1), (0, .ref 175), (1, .int a1), (2, .int a2)], [.int 324000, .int (y2 / 10)], rf_MM w m5)) (by decide +kernel) rfl trivial ?_
    refine rf_icmp_gt C 14 77 (by decide +kernel) (fun hc => ?_) (fun hc => ?_)
    · replace hg := (if_pos hc).symm.trans hg
      refine rf_few [5, 6, 7, 1, 0] rfl ?_
      exact s_X4_takeUp_77 C hE hr2 a1 a2 y4 y5 m5 hg
    · replace hg := (if_neg hc).symm.trans hg
      refine rf_seg C [(.iconst 324000, 2), (.iload 5, 2)] (pc' := 70) (S' := ([(7, .int y5), (6, .int y4), (5, .int (y3 / 10)), (4, .int (y2 / 10)), (3, .int y1), (0, .ref 175), (1, .int a1), (2, .int a2)], [.int (y3 / 10), .int 324000], rf_MM w m5)) (by decide +kernel) rfl trivial ?_
      refine rf_icmp_gt C 7 77 (by decide +kernel) (fun hc => ?_) (fun hc => ?_)
      · replace hg := (if_pos hc).symm.trans hg
        refine rf_few [5, 6, 7, 1, 0] rfl ?_
        exact s_X4_takeUp_77 C hE hr2 a1 a2 y4 y5 m5 hg
      · replace hg := (if_neg hc).symm.trans hg
        refine rf_seg C [(.iconst 1, 1)] (pc' := 74) (S' := ([(7, .int y5), (6, .int y4), (5, .int (y3 / 10)), (4, .int (y2 / 10)), (3, .int y1), (0, .ref 175), (1, .int a1), (2, .int a2)], [.int 1], rf_MM w m5)) (by decide +kernel) rfl trivial ?_
        refine rf_goto C 4 78 (by decide +kernel) ?_
        refine rf_few [5, 6, 7, 1, 0] rfl ?_
        exact s_X4_takeUp_78 C hE hr2 a1 a2 y4 y5 1 m5 hg
theorem s_X4_takeUp_2 {w : rf_w} {K : rf_K} {r : rf_m} (C : rf_Ctx 4 cX4_takeUp 9 4 (rf_sh w) K) (hE : rf_End none K (rf_sh w) 0 0 none (rf_MM w r)) (n : Nat) : ∀ (a1 : Int32) (a2 : Int32) (m : rf_m), g_X4_takeUp_2 w n a1 a2 m = some r → rf_V 9 (rf_sh w) K 0 0 2 ([(0, .ref 175), (1, .int a1), (2, .int a2)], [], rf_MM w m) := by
  induction n with
  | zero => intro a1 a2 m hg; cases hg
  | succ n ih => intro a1 a2 m hg; exact s_X4_takeUp_2_b C hE ih a1 a2 m hg
theorem c_X4_takeUp {w : rf_w} {m : rf_m} {a1 : Int32} {r : rf_m} (hg : g_X4_takeUp w m a1 = some r) : rf_Con j_X4_takeUp 4 (rf_sh w) [.ref 175, .int a1] (rf_MM w m) none (rf_MM w r) := by
  refine rf_con j_X4_takeUp 4 ⟨by decide +kernel, rfl, Nat.le_of_ble_eq_true rfl⟩ (fun K C hE => ?_)
  unfold g_X4_takeUp at hg
  show rf_V 9 (rf_sh w) K 0 0 0 ([(0, .ref 175), (1, .int a1)], [], rf_MM w m)
  refine rf_seg C [(.iconst 0, 1), (.istore 2, 1)] (pc' := 2) (S' := ([(2, .int 0), (0, .ref 175), (1, .int a1)], [], rf_MM w m)) (by decide +kernel) rfl trivial ?_
  refine rf_few [1, 2, 0] rfl ?_
  exact s_X4_takeUp_2 C hE rf_fuel a1 0 m hg
-- X4_gatherWell
abbrev j_X4_gatherWell : rf_J := (4, yX4_gatherWell, cX4_gatherWell, 4, (some .boolean))
theorem mw_X4_gatherWell : rf_mv j_X4_gatherWell (rf_R 4) 1 := ⟨⟨rf_mem 76 (by decide +kernel), rf_mem 76 (by decide +kernel), rf_mem 1 (by decide +kernel), rf_mem 76 (by decide +kernel)⟩, by decide +kernel, by decide⟩
def g_X4_gatherWell_56 (w : rf_w) (rec9 : Int32 → Int32 → Int32 → rf_m → Option (Int32 × rf_m)) (a1 : Int32) (a2 : Int32) (a3 : Int32) (m : rf_m) : Option (Int32 × rf_m) := rec9 a1 a2 (a3 + 1) m
def g_X4_gatherWell_9_b (w : rf_w) (rec9 : Int32 → Int32 → Int32 → rf_m → Option (Int32 × rf_m)) (a1 : Int32) (a2 : Int32) (a3 : Int32) (m : rf_m) : Option (Int32 × rf_m) := (if (m.1 50 0) ≤ a3 then some (1, m) else rf_b (g_X7_isWell w m a3 a1) fun y0 m0 => (if y0 = 0 then g_X4_gatherWell_56 w rec9 a1 a2 a3 m0 else (if a2 < 8 then rf_b (g_X4_isAble w m0 a3) fun y1 m1 => (if y1 = 0 then g_X4_gatherWell_56 w rec9 a1 (a2 + 1) a3 m1 else rf_bv (g_X4_takeUp w m1 a3) fun m2 => g_X4_gatherWell_56 w rec9 a1 (a2 + 1) a3 m2) else some (0, m0))))
def g_X4_gatherWell_9 (w : rf_w) : Nat → Int32 → Int32 → Int32 → rf_m → Option (Int32 × rf_m)
  | 0, _, _, _, _ => none
  | n + 1, a1, a2, a3, m => g_X4_gatherWell_9_b w (g_X4_gatherWell_9 w n) a1 a2 a3 m
def g_X4_gatherWell (w : rf_w) (m : rf_m) (a1 : Int32) : Option (Int32 × rf_m) := g_X4_gatherWell_9 w rf_fuel a1 0 0 (rf_i m 175 8 0)
theorem s_X4_gatherWell_56 {w : rf_w} {K : rf_K} {r : Int32 × rf_m} (C : rf_Ctx 4 cX4_gatherWell 4 5 (rf_sh w) K) (hE : rf_End (some .boolean) K (rf_sh w) 0 0 (some (.int r.1)) (rf_MM w r.2)) {rec9 : Int32 → Int32 → Int32 → rf_m → Option (Int32 × rf_m)} (hr9 : ∀ (a1 : Int32) (a2 : Int32) (a3 : Int32) (m : rf_m), rec9 a1 a2 a3 m = some r → rf_V 4 (rf_sh w) K 0 0 9 ([(0, .ref 175), (1, .int a1), (2, .int a2), (3, .int a3)], [], rf_MM w m)) (a1 : Int32) (a2 : Int32) (a3 : Int32) (m : rf_m) (hg : g_X4_gatherWell_56 w rec9 a1 a2 a3 m = some r) : rf_V 4 (rf_sh w) K 0 0 56 ([(0, .ref 175), (1, .int a1), (2, .int a2), (3, .int a3)], [], rf_MM w m) := by
  unfold g_X4_gatherWell_56 at hg
  refine rf_seg C [(.iinc 3 1, 3)] (pc' := 59) (S' := ([(3, .int (a3 + 1)), (0, .ref 175), (1, .int a1), (2, .int a2)], [], rf_MM w m)) (by decide +kernel) rfl trivial ?_
  refine rf_goto C (-50) 9 (by decide +kernel) ?_
  refine rf_few [1, 2, 3, 0] rfl ?_
  exact hr9 a1 a2 (a3 + 1) m hg
theorem s_X4_gatherWell_9_b {w : rf_w} {K : rf_K} {r : Int32 × rf_m} (C : rf_Ctx 4 cX4_gatherWell 4 5 (rf_sh w) K) (hE : rf_End (some .boolean) K (rf_sh w) 0 0 (some (.int r.1)) (rf_MM w r.2)) {rec9 : Int32 → Int32 → Int32 → rf_m → Option (Int32 × rf_m)} (hr9 : ∀ (a1 : Int32) (a2 : Int32) (a3 : Int32) (m : rf_m), rec9 a1 a2 a3 m = some r → rf_V 4 (rf_sh w) K 0 0 9 ([(0, .ref 175), (1, .int a1), (2, .int a2), (3, .int a3)], [], rf_MM w m)) (a1 : Int32) (a2 : Int32) (a3 : Int32) (m : rf_m) (hg : g_X4_gatherWell_9_b w rec9 a1 a2 a3 m = some r) : rf_V 4 (rf_sh w) K 0 0 9 ([(0, .ref 175), (1, .int a1), (2, .int a2), (3, .int a3)], [], rf_MM w m) := by
  unfold g_X4_gatherWell_9_b at hg
  refine rf_seg C [(.iload 3, 1), (.aload 0, 1), (.invokeinterface 4 5, 3), (.invokeinterface 7 0, 3)] (pc' := 17) (S' := ([(0, .ref 175), (1, .int a1), (2, .int a2), (3, .int a3)], [.int (m.1 50 0), .int a3], rf_MM w m)) (by decide +kernel) rfl trivial ?_
  refine rf_icmp_ge C 45 62 (by decide +kernel) (fun hc => ?_) (fun hc => ?_)
  · replace hg := (if_pos hc).symm.trans hg
    refine rf_seg C [(.iconst 1, 1)] (pc' := 63) (S' := ([(0, .ref 175), (1, .int a1), (2, .int a2), (3, .int a3)], [.int 1], rf_MM w m)) (by decide +kernel) rfl trivial ?_
    obtain rfl := Option.some.inj hg
    exact rf_zret C hE (by decide) (by decide +kernel)
  · replace hg := (if_neg hc).symm.trans hg
    refine rf_seg C [(.aload 0, 1), (.invokeinterface 4 5, 3), (.iload 3, 1), (.iload 1, 1)] (pc' := 26) (S' := ([(0, .ref 175), (1, .int a1), (2, .int a2), (3, .int a3)], [.int a1, .int a3, .ref 50], rf_MM w m)) (by decide +kernel) rfl trivial ?_
    obtain ⟨y0, m0, hc0, hg⟩ := rf_b_some hg
    refine rf_callv C rf_fit0 j_X7_isWell (ci := 7) (As := [.int a3, .int a1]) (rest := []) mw_X7_isWell (c_X7_isWell hc0) (by decide) rfl (by decide) lk_4_114 rfl rfl (Nat.le_of_ble_eq_true rfl) (by decide +kernel) ?_
    show rf_V 4 (rf_sh w) K 0 0 29 ([(0, .ref 175), (1, .int a1), (2, .int a2), (3, .int a3)], [.int y0], rf_MM w m0)
    refine rf_if_eq C 27 56 (by decide +kernel) (fun hc => ?_) (fun hc => ?_)
    · replace hg := (if_pos hc).symm.trans hg
      refine rf_few [0, 1, 2, 3] rfl ?_
      exact s_X4_gatherWell_56 C hE hr9 a1 a2 a3 m0 hg
    · replace hg := (if_neg hc).symm.trans hg
      refine rf_seg C [(.iload 2, 1), (.iconst 8, 2)] (pc' := 35) (S' := ([(0, .ref 175), (1, .int a1), (2, .int a2), (3, .int a3)], [.int 8, .int a2], rf_MM w m0)) (by decide +kernel) rfl trivial ?_
      refine rf_icmp_lt C 5 40 (by decide +kernel) (fun hc => ?_) (fun hc => ?_)
      · replace hg := (if_pos hc).symm.trans hg
        refine rf_seg C [(.iinc 2 1, 3), (.aload 0, 1), (.iload 3, 1)] (pc' := 45) (S' := ([(2, .int (a2 + 1)), (0, .ref 175), (1, .int a1), (3, .int a3)], [.int a3, .ref 175], rf_MM w m0)) (by decide +kernel) rfl trivial ?_
        obtain ⟨y1, m1, hc1, hg⟩ := rf_b_some hg
        refine rf_callv C rf_fit0 j_X4_isAble (ci := 4) (As := [.int a3]) (rest := []) mw_X4_isAble (c_X4_isAble hc1) (by decide) rfl (by decide) lk_4_118 rfl rfl (Nat.le_of_ble_eq_true rfl) (by decide +kernel) ?_
        show rf_V 4 (rf_sh w) K 0 0 48 ([(2, .int (a2 + 1)), (0, .ref 175), (1, .int a1), (3, .int a3)], [.int y1], rf_MM w m1)
        refine rf_if_eq C 8 56 (by decide +kernel) (fun hc => ?_) (fun hc => ?_)
        · replace hg := (if_pos hc).symm.trans hg
          refine rf_few [1, 2, 0, 3] rfl ?_
          exact s_X4_gatherWell_56 C hE hr9 a1 (a2 + 1) a3 m1 hg
        · replace hg := (if_neg hc).symm.trans hg
          refine rf_seg C [(.aload 0, 1), (.iload 3, 1)] (pc' := 53) (S' := ([(2, .int (a2 + 1)), (0, .ref 175), (1, .int a1), (3, .int a3)], [.int a3, .ref 175], rf_MM w m1)) (by decide +kernel) rfl trivial ?_
          obtain ⟨m2, hc2, hg⟩ := rf_bv_some hg
          refine rf_callv C rf_fit0 j_X4_takeUp (ci := 4) (As := [.int a3]) (rest := []) mw_X4_takeUp (c_X4_takeUp hc2) (by decide) rfl (by decide) lk_4_121 rfl rfl (Nat.le_of_ble_eq_true rfl) (by decide +kernel) ?_
          show rf_V 4 (rf_sh w) K 0 0 56 ([(2, .int (a2 + 1)), (0, .ref 175), (1, .int a1), (3, .int a3)], [], rf_MM w m2)
          refine rf_few [1, 2, 0, 3] rfl ?_
          exact s_X4_gatherWell_56 C hE hr9 a1 (a2 + 1) a3 m2 hg
      · replace hg := (if_neg hc).symm.trans hg
        refine rf_seg C [(.iconst 0, 1)] (pc' := 39) (S' := ([(0, .ref 175), (1, .int a1), (2, .int a2), (3, .int a3)], [.int 0], rf_MM w m0)) (by decide +kernel) rfl trivial ?_
        obtain rfl := Option.some.inj hg
        exact rf_zret C hE (by decide) (by decide +kernel)
theorem s_X4_gatherWell_9 {w : rf_w} {K : rf_K} {r : Int32 × rf_m} (C : rf_Ctx 4 cX4_gatherWell 4 5 (rf_sh w) K) (hE : rf_End (some .boolean) K (rf_sh w) 0 0 (some (.int r.1)) (rf_MM w r.2)) (n : Nat) : ∀ (a1 : Int32) (a2 : Int32) (a3 : Int32) (m : rf_m), g_X4_gatherWell_9 w n a1 a2 a3 m = some r → rf_V 4 (rf_sh w) K 0 0 9 ([(0, .ref 175), (1, .int a1), (2, .int a2), (3, .int a3)], [], rf_MM w m) := by
  induction n with
  | zero => intro a1 a2 a3 m hg; cases hg
  | succ n ih => intro a1 a2 a3 m hg; exact s_X4_gatherWell_9_b C hE ih a1 a2 a3 m hg
theorem c_X4_gatherWell {w : rf_w} {m : rf_m} {a1 : Int32} {r : Int32 × rf_m} (hg : g_X4_gatherWell w m a1 = some r) : rf_Con j_X4_gatherWell 5 (rf_sh w) [.ref 175, .int a1] (rf_MM w m) (some (.int r.1)) (rf_MM w r.2) := by
  refine rf_con j_X4_gatherWell 5 ⟨by decide +kernel, rfl, Nat.le_of_ble_eq_true rfl⟩ (fun K C hE => ?_)
  unfold g_X4_gatherWell at hg
  show rf_V 4 (rf_sh w) K 0 0 0 ([(0, .ref 175), (1, .int a1)], [], rf_MM w m)
  refine rf_seg C [(.iconst 0, 1), (.istore 2, 1), (.aload 0, 1), (.iconst 0, 1), (.multianewarray 4 8, 3), (.iconst 0, 1), (.istore 3, 1)] (pc' := 9) (S' := ([(3, .int 0), (2, .int 0), (0, .ref 175), (1, .int a1)], [], rf_MM w (rf_i m 175 8 0))) (by decide +kernel) rfl trivial ?_
  refine rf_few [2, 3, 1, 0] rfl ?_
  exact s_X4_gatherWell_9 C hE rf_fuel a1 0 0 (rf_i m 175 8 0) hg
-- X4_measureShrink
abbrev j_X4_measureShrink : rf_J := (4, yX4_measureShrink, cX4_measureShrink, 6, none)
theorem mw_X4_measureShrink : rf_mv j_X4_measureShrink (rf_R 4) 0 := ⟨⟨rf_mem 77 (by decide +kernel), rf_mem 77 (by decide +kernel), rf_mem 1 (by decide +kernel), rf_mem 77 (by decide +kernel)⟩, by decide +kernel, by decide⟩
def g_X4_measureShrink_106 (w : rf_w) (rec9 : Int32 → rf_m → Option (rf_m)) (a1 : Int32) (m : rf_m) : Option (rf_m) := rec9 (a1 + 3) m
def g_X4_measureShrink_9_b (w : rf_w) (rec9 : Int32 → rf_m → Option (rf_m)) (a1 : Int32) (m : rf_m) : Option (rf_m) := (if ((m.1 175 8) * 3) ≤ a1 then some m else rf_g (rf_in a1 24) (rf_g (rf_in (a1 + 1) 24) (rf_g (rf_in (a1 + 2) 24) (rf_b (g_min w m (m.1 179 (Int32.toNatClampNeg (a1 + 1))) (m.1 179 (Int32.toNatClampNeg (a1 + 2)))) fun y3 m3 => rf_b (g_min w m3 (m.1 179 (Int32.toNatClampNeg a1)) y3) fun y4 m4 => rf_g (rf_in a1 24) (rf_g (rf_in (a1 + 1) 24) (rf_g (rf_in (a1 + 2) 24) (rf_b (g_max w m4 (m4.1 180 (Int32.toNatClampNeg (a1 + 1))) (m4.1 180 (Int32.toNatClampNeg (a1 + 2)))) fun y8 m8 => rf_b (g_max w m8 (m4.1 180 (Int32.toNatClampNeg a1)) y8) fun y9 m9 => (if (lg_cmp (Int32.toInt64 y9) 0) ≤ 0 then g_X4_measureShrink_106 w rec9 a1 m9 else rf_g (rf_nzl (Int32.toInt64 y9)) (rf_b (g_minL w m9 (m9.2 175 12) (((Int32.toInt64 y4) * 1000000) / (Int32.toInt64 y9))) fun y11 m11 => g_X4_measureShrink_106 w rec9 a1 (rf_l m11 175 12 y11))))))))))
def g_X4_measureShrink_9 (w : rf_w) : Nat → Int32 → rf_m → Option (rf_m)
  | 0, _, _ => none
  | n + 1, a1, m => g_X4_measureShrink_9_b w (g_X4_measureShrink_9 w n) a1 m
def g_X4_measureShrink (w : rf_w) (m : rf_m) : Option (rf_m) := g_X4_measureShrink_9 w rf_fuel 0 (rf_l m 175 12 1000000)
theorem s_X4_measureShrink_106 {w : rf_w} {K : rf_K} {r : rf_m} (C : rf_Ctx 4 cX4_measureShrink 6 2 (rf_sh w) K) (hE : rf_End none K (rf_sh w) 0 0 none (rf_MM w r)) {rec9 : Int32 → rf_m → Option (rf_m)} (hr9 : ∀ (a1 : Int32) (m : rf_m), rec9 a1 m = some r → rf_V 6 (rf_sh w) K 0 0 9 ([(0, .ref 175), (1, .int a1)], [], rf_MM w m)) (a1 : Int32) (m : rf_m) (hg : g_X4_measureShrink_106 w rec9 a1 m = some r) : rf_V 6 (rf_sh w) K 0 0 106 ([(0, .ref 175), (1, .int a1)], [], rf_MM w m) := by
  unfold g_X4_measureShrink_106 at hg
  refine rf_seg C [(.iinc 1 3, 3)] (pc' := 109) (S' := ([(1, .int (a1 + 3)), (0, .ref 175)], [], rf_MM w m)) (by decide +kernel) rfl trivial ?_
  refine rf_goto C (-100) 9 (by decide +kernel) ?_
  refine rf_few [1, 0] rfl ?_
  exact hr9 (a1 + 3) m hg
theorem s_X4_measureShrink_9_b {w : rf_w} {K : rf_K} {r : rf_m} (C : rf_Ctx 4 cX4_measureShrink 6 2 (rf_sh w) K) (hE : rf_End none K (rf_sh w) 0 0 none (rf_MM w r)) {rec9 : Int32 → rf_m → Option (rf_m)} (hr9 : ∀ (a1 : Int32) (m : rf_m), rec9 a1 m = some r → rf_V 6 (rf_sh w) K 0 0 9 ([(0, .ref 175), (1, .int a1)], [], rf_MM w m)) (a1 : Int32) (m : rf_m) (hg : g_X4_measureShrink_9_b w rec9 a1 m = some r) : rf_V 6 (rf_sh w) K 0 0 9 ([(0, .ref 175), (1, .int a1)], [], rf_MM w m) := by
  unfold g_X4_measureShrink_9_b at hg
  refine rf_seg C [(.iload 1, 1), (.aload 0, 1), (.invokeinterface 4 8, 3), (.iconst 3, 1), (.imul, 1)] (pc' := 16) (S' := ([(0, .ref 175), (1, .int a1)], [.int ((m.1 175 8) * 3), .int a1], rf_MM w m)) (by decide +kernel) rfl trivial ?_
  refine rf_icmp_ge C 96 112 (by decide +kernel) (fun hc => ?_) (fun hc => ?_)
  · replace hg := (if_pos hc).symm.trans hg
    obtain rfl := Option.some.inj hg
    exact rf_vret C hE (by decide +kernel)
  · replace hg := (if_neg hc).symm.trans hg
    obtain ⟨q0, hg⟩ := rf_g_some hg
    obtain ⟨q1, hg⟩ := rf_g_some hg
    obtain ⟨q2, hg⟩ := rf_g_some hg
    refine rf_seg C [(.aload 0, 1), (.invokeinterface 4 10, 3), (.iload 1, 1), (.iaload, 1), (.aload 0, 1), (.invokeinterface 4 10, 3), (.iload 1, 1), (.iconst 1, 1), (.iadd, 1), (.iaload, 1), (.aload 0, 1), (.invokeinterface 4 10, 3), (.iload 1, 1), (.iconst 2, 1), (.iadd, 1), (.iaload, 1)] (pc' := 41) (S' := ([(0, .ref 175), (1, .int a1)], [.int (m.1 179 (Int32.toNatClampNeg (a1 + 2))), .int (m.1 179 (Int32.toNatClampNeg (a1 + 1))), .int (m.1 179 (Int32.toNatClampNeg a1))], rf_MM w m)) (by decide +kernel) rfl (by exact ⟨(rf_in_of q0), (rf_in_of q1), (rf_in_of q2)⟩) ?_
    obtain ⟨y3, m3, hc3, hg⟩ := rf_b_some hg
    refine rf_calls C rf_fit0 j_min (As := [.int (m.1 179 (Int32.toNatClampNeg (a1 + 1))), .int (m.1 179 (Int32.toNatClampNeg (a1 + 2)))]) (rest := [.int (m.1 179 (Int32.toNatClampNeg a1))]) mw_min (c_min hc3) (by decide) lk_4_142 rfl rfl (Nat.le_of_ble_eq_true rfl) (by decide +kernel) ?_
    show rf_V 6 (rf_sh w) K 0 0 44 ([(0, .ref 175), (1, .int a1)], [.int y3, .int (m.1 179 (Int32.toNatClampNeg a1))], rf_MM w m3)
    obtain ⟨y4, m4, hc4, hg⟩ := rf_b_some hg
    refine rf_calls C rf_fit0 j_min (As := [.int (m.1 179 (Int32.toNatClampNeg a1)), .int y3]) (rest := []) mw_min (c_min hc4) (by decide) lk_4_142 rfl rfl (Nat.le_of_ble_eq_true rfl) (by decide +kernel) ?_
    show rf_V 6 (rf_sh w) K 0 0 47 ([(0, .ref 175), (1, .int a1)], [.int y4], rf_MM w m4)
    obtain ⟨q5, hg⟩ := rf_g_some hg
    obtain ⟨q6, hg⟩ := rf_g_some hg
    obtain ⟨q7, hg⟩ := rf_g_some hg
    refine rf_seg C [(.i2l, 1), (.lstore 2, 1), (.aload 0, 1), (.invokeinterface 4 11, 3), (.iload 1, 1), (.iaload, 1), (.aload 0, 1), (.invokeinterface 4 11, 3), (.iload 1, 1), (.iconst 1, 1), (.iadd, 1), (.iaload, 1), (.aload 0, 1), (.invokeinterface 4 11, 3), (.iload 1, 1), (.iconst 2, 1), (.iadd, 1), (.iaload, 1)] (pc' := 71) (S' := ([(2, .long (Int32.toInt64 y4)), (0, .ref 175), (1, .int a1)], [.int (m4.1 180 (Int32.toNatClampNeg (a1 + 2))), .int (m4.1 180 (Int32.toNatClampNeg (a1 + 1))), .int (m4.1 180 (Int32.toNatClampNeg a1))], rf_MM w m4)) (by decide +kernel) rfl (by exact ⟨(rf_in_of q5), (rf_in_of q6), (rf_in_of q7)⟩) ?_
    obtain ⟨y8, m8, hc8, hg⟩ := rf_b_some hg
    refine rf_calls C rf_fit0 j_max (As := [.int (m4.1 180 (Int32.toNatClampNeg (a1 + 1))), .int (m4.1 180 (Int32.toNatClampNeg (a1 + 2)))]) (rest := [.int (m4.1 180 (Int32.toNatClampNeg a1))]) mw_max (c_max hc8) (by decide) lk_4_100 rfl rfl (Nat.le_of_ble_eq_true rfl) (by decide +kernel) ?_
    show rf_V 6 (rf_sh w) K 0 0 74 ([(2, .long (Int32.toInt64 y4)), (0, .ref 175), (1, .int a1)], [.int y8, .int (m4.1 180 (Int32.toNatClampNeg a1))], rf_MM w m8)
    obtain ⟨y9, m9, hc9, hg⟩ := rf_b_some hg
    refine rf_calls C rf_fit0 j_max (As := [.int (m4.1 180 (Int32.toNatClampNeg a1)), .int y8]) (rest := []) mw_max (c_max hc9) (by decide) lk_4_100 rfl rfl (Nat.le_of_ble_eq_true rfl) (by decide +kernel) ?_
    show rf_V 6 (rf_sh w) K 0 0 77 ([(2, .long (Int32.toInt64 y4)), (0, .ref 175), (1, .int a1)], [.int y9], rf_MM w m9)
    refine rf_seg C [(.i2l, 1), (.lstore 4, 2), (.lload 4, 2), (.goto_w 0, 1), (.lcmp, 1)] (pc' := 84) (S' := ([(4, .long (Int32.toInt64 y9)), (2, .long (Int32.toInt64 y4)), (0, .ref 175), (1, .int a1)], [.int (lg_cmp (Int32.toInt64 y9) 0)], rf_MM w m9)) (by decide +kernel) rfl trivial ?_
    refine rf_if_le C 22 106 (by decide +kernel) (fun hc => ?_) (fun hc => ?_)
    · replace hg := (if_pos hc).symm.trans hg
      refine rf_few [2, 3] rfl ?_
      exact s_X4_measureShrink_106 C hE hr9 a1 m9 hg
    · replace hg := (if_neg hc).symm.trans hg
      obtain ⟨q10, hg⟩ := rf_g_some hg
      refine rf_seg C [(.aload 0, 1), (.aload 0, 1), (.invokeinterface 4 12, 3), (.lload 2, 1), (.goto_w 1000000, 3), (.lmul, 1), (.lload 4, 2), (.ldiv, 1)] (pc' := 100) (S' := ([(4, .long (Int32.toInt64 y9)), (2, .long (Int32.toInt64 y4)), (0, .ref 175), (1, .int a1)], [.long (((Int32.toInt64 y4) * 1000000) / (Int32.toInt64 y9)), .long (m9.2 175 12), .ref 175], rf_MM w m9)) (by decide +kernel) rfl (rf_nzl_of q10) ?_
      obtain ⟨y11, m11, hc11, hg⟩ := rf_b_some hg
      refine rf_calls C rf_fit0 j_minL (As := [.long (m9.2 175 12), .long (((Int32.toInt64 y4) * 1000000) / (Int32.toInt64 y9))]) (rest := [.ref 175]) mw_minL (c_minL hc11) (by decide) lk_4_150 rfl rfl (Nat.le_of_ble_eq_true rfl) (by decide +kernel) ?_
      show rf_V 6 (rf_sh w) K 0 0 103 ([(4, .long (Int32.toInt64 y9)), (2, .long (Int32.toInt64 y4)), (0, .ref 175), (1, .int a1)], [.long y11, .ref 175], rf_MM w m11)
      refine rf_seg C [(.multianewarray 4 12, 3)] (pc' := 106) (S' := ([(4, .long (Int32.toInt64 y9)), (2, .long (Int32.toInt64 y4)), (0, .ref 175), (1, .int a1)], [], rf_MM w (rf_l m11 175 12 y11))) (by decide +kernel) rfl trivial ?_
      refine rf_few [2, 3] rfl ?_
      exact s_X4_measureShrink_106 C hE hr9 a1 (rf_l m11 175 12 y11) hg
theorem s_X4_measureShrink_9 {w : rf_w} {K : rf_K} {r : rf_m} (C : rf_Ctx 4 cX4_measureShrink 6 2 (rf_sh w) K) (hE : rf_End none K (rf_sh w) 0 0 none (rf_MM w r)) (n : Nat) : ∀ (a1 : Int32) (m : rf_m), g_X4_measureShrink_9 w n a1 m = some r → rf_V 6 (rf_sh w) K 0 0 9 ([(0, .ref 175), (1, .int a1)], [], rf_MM w m) := by
  induction n with
  | zero => intro a1 m hg; cases hg
  | succ n ih => intro a1 m hg; exact s_X4_measureShrink_9_b C hE ih a1 m hg
theorem c_X4_measureShrink {w : rf_w} {m : rf_m} {r : rf_m} (hg : g_X4_measureShrink w m = some r) : rf_Con j_X4_measureShrink 2 (rf_sh w) [.ref 175] (rf_MM w m) none (rf_MM w r) := by
  refine rf_con j_X4_measureShrink 2 ⟨by decide +kernel, rfl, Nat.le_of_ble_eq_true rfl⟩ (fun K C hE => ?_)
  unfold g_X4_measureShrink at hg
  show rf_V 6 (rf_sh w) K 0 0 0 ([(0, .ref 175)], [], rf_MM w m)
  refine rf_seg C [(.aload 0, 1), (.goto_w 1000000, 3), (.multianewarray 4 12, 3), (.iconst 0, 1), (.istore 1, 1)] (pc' := 9) (S' := ([(1, .int 0), (0, .ref 175)], [], rf_MM w (rf_l m 175 12 1000000))) (by decide +kernel) rfl trivial ?_
  refine rf_few [1, 0] rfl ?_
  exact s_X4_measureShrink_9 C hE rf_fuel 0 (rf_l m 175 12 1000000) hg
-- X6_sideAt
abbrev j_X6_sideAt : rf_J := (6, yX6_sideAt, cX6_sideAt, 2, (some .int))
theorem mw_X6_sideAt : rf_mv j_X6_sideAt (rf_R 6) 1 := ⟨⟨rf_mem 78 (by decide +kernel), rf_mem 78 (by decide +kernel), rf_mem 1 (by decide +kernel), rf_mem 78 (by decide +kernel)⟩, by decide +kernel, by decide⟩
def g_X6_sideAt (w : rf_w) (m : rf_m) (a1 : Int32) : Option (Int32 × rf_m) := rf_g (rf_in a1 6) (some (m.1 43 (Int32.toNatClampNeg a1), m))
theorem c_X6_sideAt {w : rf_w} {m : rf_m} {a1 : Int32} {r : Int32 × rf_m} (hg : g_X6_sideAt w m a1 = some r) : rf_Con j_X6_sideAt 1 (rf_sh w) [.ref 41, .int a1] (rf_MM w m) (some (.int r.1)) (rf_MM w r.2) := by
  refine rf_con j_X6_sideAt 1 ⟨by decide +kernel, rfl, Nat.le_of_ble_eq_true rfl⟩ (fun K C hE => ?_)
  unfold g_X6_sideAt at hg
  show rf_V 2 (rf_sh w) K 0 0 0 ([(0, .ref 41), (1, .int a1)], [], rf_MM w m)
  obtain ⟨q0, hg⟩ := rf_g_some hg
  refine rf_seg C [(.aload 0, 1), (.invokeinterface 6 4, 3), (.iload 1, 1), (.iaload, 1)] (pc' := 6) (S' := ([(0, .ref 41), (1, .int a1)], [.int (m.1 43 (Int32.toNatClampNeg a1))], rf_MM w m)) (by decide +kernel) rfl (rf_in_of q0) ?_
  obtain rfl := Option.some.inj hg
  exact rf_iret C hE (by decide +kernel)
-- X6_lengthOf
abbrev j_X6_lengthOf : rf_J := (6, yX6_lengthOf, cX6_lengthOf, 5, (some .int))
theorem mw_X6_lengthOf : rf_mv j_X6_lengthOf (rf_R 6) 1 := ⟨⟨rf_mem 55 (by decide +kernel), rf_mem 55 (by decide +kernel), rf_mem 1 (by decide +kernel), rf_mem 55 (by decide +kernel)⟩, by decide +kernel, by decide⟩
def g_X6_lengthOf_80 (w : rf_w) (rec7 : Int32 → Int32 → Int32 → rf_m → Option (Int32 × rf_m)) (a1 : Int32) (a2 : Int32) (a3 : Int32) (m : rf_m) : Option (Int32 × rf_m) := rec7 a1 a2 (a3 + 1) m
def g_X6_lengthOf_7_b (w : rf_w) (rec7 : Int32 → Int32 → Int32 → rf_m → Option (Int32 × rf_m)) (a1 : Int32) (a2 : Int32) (a3 : Int32) (m : rf_m) : Option (Int32 × rf_m) := rf_g (rf_in a1 6) ((if ((a1 * 40) + (m.1 42 (Int32.toNatClampNeg a1))) ≤ a3 then some (a2, m) else rf_g (rf_in a3 240) (rf_vi (m.1 45 (Int32.toNatClampNeg a3)) fun x2 => (if x2 ≤ 0 then g_X6_lengthOf_80 w rec7 a1 a2 a3 m else rf_g (rf_in a3 240) (rf_g (rf_in a3 240) (rf_g (rf_in a3 240) (rf_g (rf_nz (2 * x2)) (rf_vi (a2 + ((x2 + (((x2 * (m.1 41 2)) * ((m.1 46 (Int32.toNatClampNeg a3)) - 15)) / 100000)) - (((m.1 47 (Int32.toNatClampNeg a3)) * (m.1 47 (Int32.toNatClampNeg a3))) / (2 * x2)))) fun x7 => g_X6_lengthOf_80 w rec7 a1 x7 a3 m))))))))
def g_X6_lengthOf_7 (w : rf_w) : Nat → Int32 → Int32 → Int32 → rf_m → Option (Int32 × rf_m)
  | 0, _, _, _, _ => none
  | n + 1, a1, a2, a3, m => g_X6_lengthOf_7_b w (g_X6_lengthOf_7 w n) a1 a2 a3 m
def g_X6_lengthOf (w : rf_w) (m : rf_m) (a1 : Int32) : Option (Int32 × rf_m) := g_X6_lengthOf_7 w rf_fuel a1 0 (a1 * 40) m
theorem s_X6_lengthOf_80 {w : rf_w} {K : rf_K} {r : Int32 × rf_m} (C : rf_Ctx 6 cX6_lengthOf 5 1 (rf_sh w) K) (hE : rf_End (some .int) K (rf_sh w) 0 0 (some (.int r.1)) (rf_MM w r.2)) {rec7 : Int32 → Int32 → Int32 → rf_m → Option (Int32 × rf_m)} (hr7 : ∀ (a1 : Int32) (a2 : Int32) (a3 : Int32) (m : rf_m), rec7 a1 a2 a3 m = some r → rf_V 5 (rf_sh w) K 0 0 7 ([(0, .ref 41), (1, .int a1), (2, .int a2), (3, .int a3)], [], rf_MM w m)) (a1 : Int32) (a2 : Int32) (a3 : Int32) (m : rf_m) (hg : g_X6_lengthOf_80 w rec7 a1 a2 a3 m = some r) : rf_V 5 (rf_sh w) K 0 0 80 ([(0, .ref 41), (1, .int a1), (2, .int a2), (3, .int a3)], [], rf_MM w m) := by
  unfold g_X6_lengthOf_80 at hg
  refine rf_seg C [(.iinc 3 1, 3)] (pc' := 83) (S' := ([(3, .int (a3 + 1)), (0, .ref 41), (1, .int a1), (2, .int a2)], [], rf_MM w m)) (by decide +kernel) rfl trivial ?_
  refine rf_goto C (-76) 7 (by decide +kernel) ?_
  refine rf_few [1, 2, 3, 0] rfl ?_
  exact hr7 a1 a2 (a3 + 1) m hg
theorem s_X6_lengthOf_7_b {w : rf_w} {K : rf_K} {r : Int32 × rf_m} (C : rf_Ctx 6 cX6_lengthOf 5 1 (rf_sh w) K) (hE : rf_End (some .int) K (rf_sh w) 0 0 (some (.int r.1)) (rf_MM w r.2)) {rec7 : Int32 → Int32 → Int32 → rf_m → Option (Int32 × rf_m)} (hr7 : ∀ (a1 : Int32) (a2 : Int32) (a3 : Int32) (m : rf_m), rec7 a1 a2 a3 m = some r → rf_V 5 (rf_sh w) K 0 0 7 ([(0, .ref 41), (1, .int a1), (2, .int a2), (3, .int a3)], [], rf_MM w m)) (a1 : Int32) (a2 : Int32) (a3 : Int32) (m : rf_m) (hg : g_X6_lengthOf_7_b w rec7 a1 a2 a3 m = some r) : rf_V 5 (rf_sh w) K 0 0 7 ([(0, .ref 41), (1, .int a1), (2, .int a2), (3, .int a3)], [], rf_MM w m) := by
  unfold g_X6_lengthOf_7_b at hg
  obtain ⟨q0, hg⟩ := rf_g_some hg
  refine rf_seg C [(.iload 3, 1), (.iload 1, 1), (.iconst 40, 2), (.imul, 1), (.aload 0, 1), (.invokeinterface 6 0, 3), (.iload 1, 1), (.iaload, 1), (.iadd, 1)] (pc' := 19) (S' := ([(0, .ref 41), (1, .int a1), (2, .int a2), (3, .int a3)], [.int ((a1 * 40) + (m.1 42 (Int32.toNatClampNeg a1))), .int a3], rf_MM w m)) (by decide +kernel) rfl (rf_in_of q0) ?_
  refine rf_icmp_ge C 67 86 (by decide +kernel) (fun hc => ?_) (fun hc => ?_)
  · replace hg := (if_pos hc).symm.trans hg
    refine rf_seg C [(.iload 2, 1)] (pc' := 87) (S' := ([(0, .ref 41), (1, .int a1), (2, .int a2), (3, .int a3)], [.int a2], rf_MM w m)) (by decide +kernel) rfl trivial ?_
    obtain rfl := Option.some.inj hg
    exact rf_iret C hE (by decide +kernel)
  · replace hg := (if_neg hc).symm.trans hg
    obtain ⟨q1, hg⟩ := rf_g_some hg
    refine rf_seg C [(.aload 0, 1), (.invokeinterface 6 6, 3), (.iload 3, 1), (.iaload, 1)] (pc' := 28) (S' := ([(0, .ref 41), (1, .int a1), (2, .int a2), (3, .int a3)], [.int (m.1 45 (Int32.toNatClampNeg a3))], rf_MM w m)) (by decide +kernel) rfl (rf_in_of q1) ?_
    obtain ⟨x2, hx2, hg⟩ := rf_vi_some hg
    refine rf_vi_top hx2 ?_
    refine rf_seg C [(.istore 4, 2), (.iload 4, 2)] (pc' := 32) (S' := ([(4, .int x2), (0, .ref 41), (1, .int a1), (2, .int a2), (3, .int a3)], [.int x2], rf_MM w m)) (by decide +kernel) rfl trivial ?_
    refine rf_if_le C 48 80 (by decide +kernel) (fun hc => ?_) (fun hc => ?_)
    · replace hg := (if_pos hc).symm.trans hg
      refine rf_few [1, 2, 3, 4] rfl ?_
      exact s_X6_lengthOf_80 C hE hr7 a1 a2 a3 m hg
    · replace hg := (if_neg hc).symm.trans hg
      obtain ⟨q3, hg⟩ := rf_g_some hg
      obtain ⟨q4, hg⟩ := rf_g_some hg
      obtain ⟨q5, hg⟩ := rf_g_some hg
      obtain ⟨q6, hg⟩ := rf_g_some hg
      refine rf_seg C [(.iload 2, 1), (.iload 4, 2), (.iload 4, 2), (.aload 0, 1), (.invokeinterface 6 2, 3), (.imul, 1), (.aload 0, 1), (.invokeinterface 6 7, 3), (.iload 3, 1), (.iaload, 1), (.iconst 15, 2), (.isub, 1), (.imul, 1), (.iconst 100000, 2), (.idiv, 1), (.iadd, 1), (.aload 0, 1), (.invokeinterface 6 8, 3), (.iload 3, 1), (.iaload, 1), (.aload 0, 1), (.invokeinterface 6 8, 3), (.iload 3, 1), (.iaload, 1), (.imul, 1), (.iconst 2, 1), (.iload 4, 2), (.imul, 1), (.idiv, 1), (.isub, 1), (.iadd, 1)] (pc' := 79) (S' := ([(4, .int x2), (0, .ref 41), (1, .int a1), (2, .int a2), (3, .int a3)], [.int (a2 + ((x2 + (((x2 * (m.1 41 2)) * ((m.1 46 (Int32.toNatClampNeg a3)) - 15)) / 100000)) - (((m.1 47 (Int32.toNatClampNeg a3)) * (m.1 47 (Int32.toNatClampNeg a3))) / (2 * x2))))], rf_MM w m)) (by decide +kernel) rfl (by exact ⟨(rf_in_of q3), (rf_nz_of (by decide)), (rf_in_of q4), (rf_in_of q5), (rf_nz_of q6)⟩) ?_
      obtain ⟨x7, hx7, hg⟩ := rf_vi_some hg
      refine rf_vi_top hx7 ?_
      refine rf_seg C [(.istore 2, 1)] (pc' := 80) (S' := ([(2, .int x7), (4, .int x2), (0, .ref 41), (1, .int a1), (3, .int a3)], [], rf_MM w m)) (by decide +kernel) rfl trivial ?_
      refine rf_few [2, 3, 0, 4] rfl ?_
      exact s_X6_lengthOf_80 C hE hr7 a1 x7 a3 m hg
theorem s_X6_lengthOf_7 {w : rf_w} {K : rf_K} {r : Int32 × rf_m} (C : rf_Ctx 6 cX6_lengthOf 5 1 (rf_sh w) K) (hE : rf_End (some .int) K (rf_sh w) 0 0 (some (.int r.1)) (rf_MM w r.2)) (n : Nat) : ∀ (a1 : Int32) (a2 : Int32) (a3 : Int32) (m : rf_m), g_X6_lengthOf_7 w n a1 a2 a3 m = some r → rf_V 5 (rf_sh w) K 0 0 7 ([(0, .ref 41), (1, .int a1), (2, .int a2), (3, .int a3)], [], rf_MM w m) := by
  induction n with
  | zero => intro a1 a2 a3 m hg; cases hg
  | succ n ih => intro a1 a2 a3 m hg; exact s_X6_lengthOf_7_b C hE ih a1 a2 a3 m hg
theorem c_X6_lengthOf {w : rf_w} {m : rf_m} {a1 : Int32} {r : Int32 × rf_m} (hg : g_X6_lengthOf w m a1 = some r) : rf_Con j_X6_lengthOf 1 (rf_sh w) [.ref 41, .int a1] (rf_MM w m) (some (.int r.1)) (rf_MM w r.2) := by
  refine rf_con j_X6_lengthOf 1 ⟨by decide +kernel, rfl, Nat.le_of_ble_eq_true rfl⟩ (fun K C hE => ?_)
  unfold g_X6_lengthOf at hg
  show rf_V 5 (rf_sh w) K 0 0 0 ([(0, .ref 41), (1, .int a1)], [], rf_MM w m)
  refine rf_seg C [(.iconst 0, 1), (.istore 2, 1), (.iload 1, 1), (.iconst 40, 2), (.imul, 1), (.istore 3, 1)] (pc' := 7) (S' := ([(3, .int (a1 * 40)), (2, .int 0), (0, .ref 41), (1, .int a1)], [], rf_MM w m)) (by decide +kernel) rfl trivial ?_
  refine rf_few [2, 3, 1, 0] rfl ?_
  exact s_X6_lengthOf_7 C hE rf_fuel a1 0 (a1 * 40) m hg
-- X6_twinOf
abbrev j_X6_twinOf : rf_J := (6, yX6_twinOf, cX6_twinOf, 3, (some .int))
theorem mw_X6_twinOf : rf_mv j_X6_twinOf (rf_R 6) 1 := ⟨⟨rf_mem 55 (by decide +kernel), rf_mem 56 (by decide +kernel), rf_mem 1 (by decide +kernel), rf_mem 56 (by decide +kernel)⟩, by decide +kernel, by decide⟩
def g_X6_twinOf_32 (w : rf_w) (rec2 : Int32 → Int32 → rf_m → Option (Int32 × rf_m)) (a1 : Int32) (a2 : Int32) (m : rf_m) : Option (Int32 × rf_m) := rec2 a1 (a2 + 1) m
def g_X6_twinOf_2_b (w : rf_w) (rec2 : Int32 → Int32 → rf_m → Option (Int32 × rf_m)) (a1 : Int32) (a2 : Int32) (m : rf_m) : Option (Int32 × rf_m) := (if (m.1 41 1) ≤ a2 then some ((-1), m) else (if a2 = a1 then g_X6_twinOf_32 w rec2 a1 a2 m else rf_g (rf_in a2 6) (rf_g (rf_in a1 6) ((if (m.1 43 (Int32.toNatClampNeg a2)) = (m.1 43 (Int32.toNatClampNeg a1)) then some (a2, m) else g_X6_twinOf_32 w rec2 a1 a2 m)))))
def g_X6_twinOf_2 (w : rf_w) : Nat → Int32 → Int32 → rf_m → Option (Int32 × rf_m)
  | 0, _, _, _ => none
  | n + 1, a1, a2, m => g_X6_twinOf_2_b w (g_X6_twinOf_2 w n) a1 a2 m
def g_X6_twinOf (w : rf_w) (m : rf_m) (a1 : Int32) : Option (Int32 × rf_m) := g_X6_twinOf_2 w rf_fuel a1 0 m
theorem s_X6_twinOf_32 {w : rf_w} {K : rf_K} {r : Int32 × rf_m} (C : rf_Ctx 6 cX6_twinOf 3 1 (rf_sh w) K) (hE : rf_End (some .int) K (rf_sh w) 0 0 (some (.int r.1)) (rf_MM w r.2)) {rec2 : Int32 → Int32 → rf_m → Option (Int32 × rf_m)} (hr2 : ∀ (a1 : Int32) (a2 : Int32) (m : rf_m), rec2 a1 a2 m = some r → rf_V 3 (rf_sh w) K 0 0 2 ([(0, .ref 41), (1, .int a1), (2, .int a2)], [], rf_MM w m)) (a1 : Int32) (a2 : Int32) (m : rf_m) (hg : g_X6_twinOf_32 w rec2 a1 a2 m = some r) : rf_V 3 (rf_sh w) K 0 0 32 ([(0, .ref 41), (1, .int a1), (2, .int a2)], [], rf_MM w m) := by
  unfold g_X6_twinOf_32 at hg
  refine rf_seg C [(.iinc 2 1, 3)] (pc' := 35) (S' := ([(2, .int (a2 + 1)), (0, .ref 41), (1, .int a1)], [], rf_MM w m)) (by decide +kernel) rfl trivial ?_
  refine rf_goto C (-33) 2 (by decide +kernel) ?_
  refine rf_few [1, 2, 0] rfl ?_
  exact hr2 a1 (a2 + 1) m hg
theorem s_X6_twinOf_2_b {w : rf_w} {K : rf_K} {r : Int32 × rf_m} (C : rf_Ctx 6 cX6_twinOf 3 1 (rf_sh w) K) (hE : rf_End (some .int) K (rf_sh w) 0 0 (some (.int r.1)) (rf_MM w r.2)) {rec2 : Int32 → Int32 → rf_m → Option (Int32 × rf_m)} (hr2 : ∀ (a1 : Int32) (a2 : Int32) (m : rf_m), rec2 a1 a2 m = some r → rf_V 3 (rf_sh w) K 0 0 2 ([(0, .ref 41), (1, .int a1), (2, .int a2)], [], rf_MM w m)) (a1 : Int32) (a2 : Int32) (m : rf_m) (hg : g_X6_twinOf_2_b w rec2 a1 a2 m = some r) : rf_V 3 (rf_sh w) K 0 0 2 ([(0, .ref 41), (1, .int a1), (2, .int a2)], [], rf_MM w m) := by
  unfold g_X6_twinOf_2_b at hg
  refine rf_seg C [(.iload 2, 1), (.aload 0, 1), (.invokeinterface 6 1, 3)] (pc' := 7) (S' := ([(0, .ref 41), (1, .int a1), (2, .int a2)], [.int (m.1 41 1), .int a2], rf_MM w m)) (by decide +kernel) rfl trivial ?_
  refine rf_icmp_ge C 31 38 (by decide +kernel) (fun hc => ?_) (fun hc => ?_)
  · replace hg := (if_pos hc).symm.trans hg
    refine rf_seg C [(.iconst (-1), 1)] (pc' := 39) (S' := ([(0, .ref 41), (1, .int a1), (2, .int a2)], [.int ((-1))], rf_MM w m)) (by decide +kernel) rfl trivial ?_
    obtain rfl := Option.some.inj hg
    exact rf_iret C hE (by decide +kernel)
  · replace hg := (if_neg hc).symm.trans hg
    refine rf_seg C [(.iload 2, 1), (.iload 1, 1)] (pc' := 12) (S' := ([(0, .ref 41), (1, .int a1), (2, .int a2)], [.int a1, .int a2], rf_MM w m)) (by decide +kernel) rfl trivial ?_
    refine rf_icmp_eq C 20 32 (by decide +kernel) (fun hc => ?_) (fun hc => ?_)
    · replace hg := (if_pos hc).symm.trans hg
      refine rf_few [0, 1, 2] rfl ?_
      exact s_X6_twinOf_32 C hE hr2 a1 a2 m hg
    · replace hg := (if_neg hc).symm.trans hg
      obtain ⟨q0, hg⟩ := rf_g_some hg
      obtain ⟨q1, hg⟩ := rf_g_some hg
      refine rf_seg C [(.aload 0, 1), (.invokeinterface 6 4, 3), (.iload 2, 1), (.iaload, 1), (.aload 0, 1), (.invokeinterface 6 4, 3), (.iload 1, 1), (.iaload, 1)] (pc' := 27) (S' := ([(0, .ref 41), (1, .int a1), (2, .int a2)], [.int (m.1 43 (Int32.toNatClampNeg a1)), .int (m.1 43 (Int32.toNatClampNeg a2))], rf_MM w m)) (by decide +kernel) rfl (by exact ⟨(rf_in_of q0), (rf_in_of q1)⟩) ?_
      refine rf_icmp_ne C 5 32 (by decide +kernel) (fun hc => ?_) (fun hc => ?_)
      · replace hg := (if_neg hc).symm.trans hg
        refine rf_few [0, 1, 2] rfl ?_
        exact s_X6_twinOf_32 C hE hr2 a1 a2 m hg
      · replace hg := (if_pos hc).symm.trans hg
        refine rf_seg C [(.iload 2, 1)] (pc' := 31) (S' := ([(0, .ref 41), (1, .int a1), (2, .int a2)], [.int a2], rf_MM w m)) (by decide +kernel) rfl trivial ?_
        obtain rfl := Option.some.inj hg
        exact rf_iret C hE (by decide +kernel)
theorem s_X6_twinOf_2 {w : rf_w} {K : rf_K} {r : Int32 × rf_m} (C : rf_Ctx 6 cX6_twinOf 3 1 (rf_sh w) K) (hE : rf_End (some .int) K (rf_sh w) 0 0 (some (.int r.1)) (rf_MM w r.2)) (n : Nat) : ∀ (a1 : Int32) (a2 : Int32) (m : rf_m), g_X6_twinOf_2 w n a1 a2 m = some r → rf_V 3 (rf_sh w) K 0 0 2 ([(0, .ref 41), (1, .int a1), (2, .int a2)], [], rf_MM w m) := by
  induction n with
  | zero => intro a1 a2 m hg; cases hg
  | succ n ih => intro a1 a2 m hg; exact s_X6_twinOf_2_b C hE ih a1 a2 m hg
theorem c_X6_twinOf {w : rf_w} {m : rf_m} {a1 : Int32} {r : Int32 × rf_m} (hg : g_X6_twinOf w m a1 = some r) : rf_Con j_X6_twinOf 1 (rf_sh w) [.ref 41, .int a1] (rf_MM w m) (some (.int r.1)) (rf_MM w r.2) := by
  refine rf_con j_X6_twinOf 1 ⟨by decide +kernel, rfl, Nat.le_of_ble_eq_true rfl⟩ (fun K C hE => ?_)
  unfold g_X6_twinOf at hg
  show rf_V 3 (rf_sh w) K 0 0 0 ([(0, .ref 41), (1, .int a1)], [], rf_MM w m)
  refine rf_seg C [(.iconst 0, 1), (.istore 2, 1)] (pc' := 2) (S' := ([(2, .int 0), (0, .ref 41), (1, .int a1)], [], rf_MM w m)) (by decide +kernel) rfl trivial ?_
  refine rf_few [1, 2, 0] rfl ?_
  exact s_X6_twinOf_2 C hE rf_fuel a1 0 m hg
-- X6_areTorn
abbrev j_X6_areTorn : rf_J := (6, yX6_areTorn, cX6_areTorn, 3, (some .boolean))
theorem mw_X6_areTorn : rf_mv j_X6_areTorn (rf_R 6) 2 := ⟨⟨rf_mem 56 (by decide +kernel), rf_mem 56 (by decide +kernel), rf_mem 1 (by decide +kernel), rf_mem 56 (by decide +kernel)⟩, by decide +kernel, by decide⟩
def g_X6_areTorn (w : rf_w) (m : rf_m) (a1 : Int32) (a2 : Int32) : Option (Int32 × rf_m) := rf_b (g_X6_lengthOf w m a1) fun y0 m0 => rf_b (g_X6_lengthOf w m0 a2) fun y1 m1 => rf_b (g_abs w m1 (y0 - y1)) fun y2 m2 => rf_g (rf_in a1 6) (rf_g (rf_in a2 6) ((if y2 ≤ ((m2.1 42 (Int32.toNatClampNeg a1)) + (m2.1 42 (Int32.toNatClampNeg a2))) then some (0, m2) else some (1, m2))))
theorem c_X6_areTorn {w : rf_w} {m : rf_m} {a1 : Int32} {a2 : Int32} {r : Int32 × rf_m} (hg : g_X6_areTorn w m a1 a2 = some r) : rf_Con j_X6_areTorn 2 (rf_sh w) [.ref 41, .int a1, .int a2] (rf_MM w m) (some (.int r.1)) (rf_MM w r.2) := by
  refine rf_con j_X6_areTorn 2 ⟨by decide +kernel, rfl, Nat.le_of_ble_eq_true rfl⟩ (fun K C hE => ?_)
  unfold g_X6_areTorn at hg
  show rf_V 3 (rf_sh w) K 0 0 0 ([(0, .ref 41), (1, .int a1), (2, .int a2)], [], rf_MM w m)
  refine rf_seg C [(.aload 0, 1), (.iload 1, 1)] (pc' := 2) (S' := ([(0, .ref 41), (1, .int a1), (2, .int a2)], [.int a1, .ref 41], rf_MM w m)) (by decide +kernel) rfl trivial ?_
  obtain ⟨y0, m0, hc0, hg⟩ := rf_b_some hg
  refine rf_callv C rf_fit0 j_X6_lengthOf (ci := 6) (As := [.int a1]) (rest := []) mw_X6_lengthOf (c_X6_lengthOf hc0) (by decide) rfl (by decide) lk_6_48 rfl rfl (Nat.le_of_ble_eq_true rfl) (by decide +kernel) ?_
  show rf_V 3 (rf_sh w) K 0 0 5 ([(0, .ref 41), (1, .int a1), (2, .int a2)], [.int y0], rf_MM w m0)
  refine rf_seg C [(.aload 0, 1), (.iload 2, 1)] (pc' := 7) (S' := ([(0, .ref 41), (1, .int a1), (2, .int a2)], [.int a2, .ref 41, .int y0], rf_MM w m0)) (by decide +kernel) rfl trivial ?_
  obtain ⟨y1, m1, hc1, hg⟩ := rf_b_some hg
  refine rf_callv C rf_fit0 j_X6_lengthOf (ci := 6) (As := [.int a2]) (rest := [.int y0]) mw_X6_lengthOf (c_X6_lengthOf hc1) (by decide) rfl (by decide) lk_6_48 rfl rfl (Nat.le_of_ble_eq_true rfl) (by decide +kernel) ?_
  show rf_V 3 (rf_sh w) K 0 0 10 ([(0, .ref 41), (1, .int a1), (2, .int a2)], [.int y1, .int y0], rf_MM w m1)
  refine rf_seg C [(.isub, 1)] (pc' := 11) (S' := ([(0, .ref 41), (1, .int a1), (2, .int a2)], [.int (y0 - y1)], rf_MM w m1)) (by decide +kernel) rfl trivial ?_
  obtain ⟨y2, m2, hc2, hg⟩ := rf_b_some hg
  refine rf_calls C rf_fit0 j_abs (As := [.int (y0 - y1)]) (rest := []) mw_abs (c_abs hc2) (by decide) lk_6_52 rfl rfl (Nat.le_of_ble_eq_true rfl) (by decide +kernel) ?_
  show rf_V 3 (rf_sh w) K 0 0 14 ([(0, .ref 41), (1, .int a1), (2, .int a2)], [.int y2], rf_MM w m2)
  obtain ⟨q3, hg⟩ := rf_g_some hg
  obtain ⟨q4, hg⟩ := rf_g_some hg
  refine rf_seg C [(.aload 0, 1), (.invokeinterface 6 0, 3), (.iload 1, 1), (.iaload, 1), (.aload 0, 1), (.invokeinterface 6 0, 3), (.iload 2, 1), (.iaload, 1), (.iadd, 1)] (pc' := 27) (S' := ([(0, .ref 41), (1, .int a1), (2, .int a2)], [.int ((m2.1 42 (Int32.toNatClampNeg a1)) + (m2.1 42 (Int32.toNatClampNeg a2))), .int y2], rf_MM w m2)) (by decide +kernel) rfl (by exact ⟨(rf_in_of q3), (rf_in_of q4)⟩) ?_
  refine rf_icmp_le C 7 34 (by decide +kernel) (fun hc => ?_) (fun hc => ?_)
  · replace hg := (if_pos hc).symm.trans hg
    refine rf_seg C [(.iconst 0, 1)] (pc' := 35) (S' := ([(0, .ref 41), (1, .int a1), (2, .int a2)], [.int 0], rf_MM w m2)) (by decide +kernel) rfl trivial ?_
    obtain rfl := Option.some.inj hg
    exact rf_zret C hE (by decide) (by decide +kernel)
  · replace hg := (if_neg hc).symm.trans hg
    refine rf_seg C [(.iconst 1, 1)] (pc' := 31) (S' := ([(0, .ref 41), (1, .int a1), (2, .int a2)], [.int 1], rf_MM w m2)) (by decide +kernel) rfl trivial ?_
    refine rf_goto C 4 35 (by decide +kernel) ?_
    obtain rfl := Option.some.inj hg
    exact rf_zret C hE (by decide) (by decide +kernel)
-- X6_leastOf
abbrev j_X6_leastOf : rf_J := (6, yX6_leastOf, cX6_leastOf, 5, (some .int))
theorem mw_X6_leastOf : rf_mv j_X6_leastOf (rf_R 6) 1 := ⟨⟨rf_mem 55 (by decide +kernel), rf_mem 55 (by decide +kernel), rf_mem 1 (by decide +kernel), rf_mem 55 (by decide +kernel)⟩, by decide +kernel, by decide⟩
def g_X6_leastOf (w : rf_w) (m : rf_m) (a1 : Int32) : Option (Int32 × rf_m) := rf_b (g_X6_lengthOf w m a1) fun y0 m0 => rf_g (rf_in a1 6) (rf_vi (y0 - (m0.1 42 (Int32.toNatClampNeg a1))) fun x2 => rf_b (g_X6_twinOf w m0 a1) fun y3 m3 => (if y3 = ((-1)) then some (x2, m3) else rf_b (g_X6_lengthOf w m3 y3) fun y4 m4 => rf_g (rf_in y3 6) (rf_vi (y4 - (m4.1 42 (Int32.toNatClampNeg y3))) fun x6 => rf_b (g_X6_areTorn w m4 a1 y3) fun y7 m7 => (if y7 = 0 then rf_b (g_max w m7 x2 x6) fun y8 m8 => some (y8, m8) else rf_b (g_min w m7 x2 x6) fun y9 m9 => some (y9, m9)))))
theorem c_X6_leastOf {w : rf_w} {m : rf_m} {a1 : Int32} {r : Int32 × rf_m} (hg : g_X6_leastOf w m a1 = some r) : rf_Con j_X6_leastOf 3 (rf_sh w) [.ref 41, .int a1] (rf_MM w m) (some (.int r.1)) (rf_MM w r.2) := by
  refine rf_con j_X6_leastOf 3 ⟨by decide +kernel, rfl, Nat.le_of_ble_eq_true rfl⟩ (fun K C hE => ?_)
  unfold g_X6_leastOf at hg
  show rf_V 5 (rf_sh w) K 0 0 0 ([(0, .ref 41), (1, .int a1)], [], rf_MM w m)
  refine rf_seg C [(.aload 0, 1), (.iload 1, 1)] (pc' := 2) (S' := ([(0, .ref 41), (1, .int a1)], [.int a1, .ref 41], rf_MM w m)) (by decide +kernel) rfl trivial ?_
  obtain ⟨y0, m0, hc0, hg⟩ := rf_b_some hg
  refine rf_callv C rf_fit0 j_X6_lengthOf (ci := 6) (As := [.int a1]) (rest := []) mw_X6_lengthOf (c_X6_lengthOf hc0) (by decide) rfl (by decide) lk_6_48 rfl rfl (Nat.le_of_ble_eq_true rfl) (by decide +kernel) ?_
  show rf_V 5 (rf_sh w) K 0 0 5 ([(0, .ref 41), (1, .int a1)], [.int y0], rf_MM w m0)
  obtain ⟨q1, hg⟩ := rf_g_some hg
  refine rf_seg C [(.aload 0, 1), (.invokeinterface 6 0, 3), (.iload 1, 1), (.iaload, 1), (.isub, 1)] (pc' := 12) (S' := ([(0, .ref 41), (1, .int a1)], [.int (y0 - (m0.1 42 (Int32.toNatClampNeg a1)))], rf_MM w m0)) (by decide +kernel) rfl (rf_in_of q1) ?_
  obtain ⟨x2, hx2, hg⟩ := rf_vi_some hg
  refine rf_vi_top hx2 ?_
  refine rf_seg C [(.istore 2, 1), (.aload 0, 1), (.iload 1, 1)] (pc' := 15) (S' := ([(2, .int x2), (0, .ref 41), (1, .int a1)], [.int a1, .ref 41], rf_MM w m0)) (by decide +kernel) rfl trivial ?_
  obtain ⟨y3, m3, hc3, hg⟩ := rf_b_some hg
  refine rf_callv C rf_fit0 j_X6_twinOf (ci := 6) (As := [.int a1]) (rest := []) mw_X6_twinOf (c_X6_twinOf hc3) (by decide) rfl (by decide) lk_6_57 rfl rfl (Nat.le_of_ble_eq_true rfl) (by decide +kernel) ?_
  show rf_V 5 (rf_sh w) K 0 0 18 ([(2, .int x2), (0, .ref 41), (1, .int a1)], [.int y3], rf_MM w m3)
  refine rf_seg C [(.istore 3, 1), (.iload 3, 1), (.iconst (-1), 1)] (pc' := 21) (S' := ([(3, .int y3), (2, .int x2), (0, .ref 41), (1, .int a1)], [.int ((-1)), .int y3], rf_MM w m3)) (by decide +kernel) rfl trivial ?_
  refine rf_icmp_ne C 5 26 (by decide +kernel) (fun hc => ?_) (fun hc => ?_)
  · replace hg := (if_neg hc).symm.trans hg
    refine rf_seg C [(.aload 0, 1), (.iload 3, 1)] (pc' := 28) (S' := ([(3, .int y3), (2, .int x2), (0, .ref 41), (1, .int a1)], [.int y3, .ref 41], rf_MM w m3)) (by decide +kernel) rfl trivial ?_
    obtain ⟨y4, m4, hc4, hg⟩ := rf_b_some hg
    refine rf_callv C rf_fit0 j_X6_lengthOf (ci := 6) (As := [.int y3]) (rest := []) mw_X6_lengthOf (c_X6_lengthOf hc4) (by decide) rfl (by decide) lk_6_48 rfl rfl (Nat.le_of_ble_eq_true rfl) (by decide +kernel) ?_
    show rf_V 5 (rf_sh w) K 0 0 31 ([(3, .int y3), (2, .int x2), (0, .ref 41), (1, .int a1)], [.int y4], rf_MM w m4)
    obtain ⟨q5, hg⟩ := rf_g_some hg
    refine rf_seg C [(.aload 0, 1), (.invokeinterface 6 0, 3), (.iload 3, 1), (.iaload, 1), (.isub, 1)] (pc' := 38) (S' := ([(3, .int y3), (2, .int x2), (0, .ref 41), (1, .int a1)], [.int (y4 - (m4.1 42 (Int32.toNatClampNeg y3)))], rf_MM w m4)) (by decide +kernel) rfl (rf_in_of q5) ?_
    obtain ⟨x6, hx6, hg⟩ := rf_vi_some hg
    refine rf_vi_top hx6 ?_
    refine rf_seg C [(.istore 4, 2), (.aload 0, 1), (.iload 1, 1), (.iload 3, 1)] (pc' := 43) (S' := ([(4, .int x6), (3, .int y3), (2, .int x2), (0, .ref 41), (1, .int a1)], [.int y3, .int a1, .ref 41], rf_MM w m4)) (by decide +kernel) rfl trivial ?_
    obtain ⟨y7, m7, hc7, hg⟩ := rf_b_some hg
    refine rf_callv C rf_fit0 j_X6_areTorn (ci := 6) (As := [.int a1, .int y3]) (rest := []) mw_X6_areTorn (c_X6_areTorn hc7) (by decide) rfl (by decide) lk_6_60 rfl rfl (Nat.le_of_ble_eq_true rfl) (by decide +kernel) ?_
    show rf_V 5 (rf_sh w) K 0 0 46 ([(4, .int x6), (3, .int y3), (2, .int x2), (0, .ref 41), (1, .int a1)], [.int y7], rf_MM w m7)
    refine rf_if_eq C 12 58 (by decide +kernel) (fun hc => ?_) (fun hc => ?_)
    · replace hg := (if_pos hc).symm.trans hg
      refine rf_seg C [(.iload 2, 1), (.iload 4, 2)] (pc' := 61) (S' := ([(4, .int x6), (3, .int y3), (2, .int x2), (0, .ref 41), (1, .int a1)], [.int x6, .int x2], rf_MM w m7)) (by decide +kernel) rfl trivial ?_
      obtain ⟨y8, m8, hc8, hg⟩ := rf_b_some hg
      refine rf_calls C rf_fit0 j_max (As := [.int x2, .int x6]) (rest := []) mw_max (c_max hc8) (by decide) lk_6_67 rfl rfl (Nat.le_of_ble_eq_true rfl) (by decide +kernel) ?_
      show rf_V 5 (rf_sh w) K 0 0 64 ([(4, .int x6), (3, .int y3), (2, .int x2), (0, .ref 41), (1, .int a1)], [.int y8], rf_MM w m8)
      obtain rfl := Option.some.inj hg
      exact rf_iret C hE (by decide +kernel)
    · replace hg := (if_neg hc).symm.trans hg
      refine rf_seg C [(.iload 2, 1), (.iload 4, 2)] (pc' := 52) (S' := ([(4, .int x6), (3, .int y3), (2, .int x2), (0, .ref 41), (1, .int a1)], [.int x6, .int x2], rf_MM w m7)) (by decide +kernel) rfl trivial ?_
      obtain ⟨y9, m9, hc9, hg⟩ := rf_b_some hg
      refine rf_calls C rf_fit0 j_min (As := [.int x2, .int x6]) (rest := []) mw_min (c_min hc9) (by decide) lk_6_64 rfl rfl (Nat.le_of_ble_eq_true rfl) (by decide +kernel) ?_
      show rf_V 5 (rf_sh w) K 0 0 55 ([(4, .int x6), (3, .int y3), (2, .int x2), (0, .ref 41), (1, .int a1)], [.int y9], rf_MM w m9)
      refine rf_goto C 9 64 (by decide +kernel) ?_
      obtain rfl := Option.some.inj hg
      exact rf_iret C hE (by decide +kernel)
  · replace hg := (if_pos hc).symm.trans hg
    refine rf_seg C [(.iload 2, 1)] (pc' := 25) (S' := ([(3, .int y3), (2, .int x2), (0, .ref 41), (1, .int a1)], [.int x2], rf_MM w m3)) (by decide +kernel) rfl trivial ?_
    obtain rfl := Option.some.inj hg
    exact rf_iret C hE (by decide +kernel)
-- X6_mostOf
abbrev j_X6_mostOf : rf_J := (6, yX6_mostOf, cX6_mostOf, 5, (some .int))
theorem mw_X6_mostOf : rf_mv j_X6_mostOf (rf_R 6) 1 := ⟨⟨rf_mem 56 (by decide +kernel), rf_mem 56 (by decide +kernel), rf_mem 1 (by decide +kernel), rf_mem 56 (by decide +kernel)⟩, by decide +kernel, by decide⟩
def g_X6_mostOf (w : rf_w) (m : rf_m) (a1 : Int32) : Option (Int32 × rf_m) := rf_b (g_X6_lengthOf w m a1) fun y0 m0 => rf_g (rf_in a1 6) (rf_vi (y0 + (m0.1 42 (Int32.toNatClampNeg a1))) fun x2 => rf_b (g_X6_twinOf w m0 a1) fun y3 m3 => (if y3 = ((-1)) then some (x2, m3) else rf_b (g_X6_lengthOf w m3 y3) fun y4 m4 => rf_g (rf_in y3 6) (rf_vi (y4 + (m4.1 42 (Int32.toNatClampNeg y3))) fun x6 => rf_b (g_X6_areTorn w m4 a1 y3) fun y7 m7 => (if y7 = 0 then rf_b (g_min w m7 x2 x6) fun y8 m8 => some (y8, m8) else rf_b (g_max w m7 x2 x6) fun y9 m9 => some (y9, m9)))))
theorem c_X6_mostOf {w : rf_w} {m : rf_m} {a1 : Int32} {r : Int32 × rf_m} (hg : g_X6_mostOf w m a1 = some r) : rf_Con j_X6_mostOf 3 (rf_sh w) [.ref 41, .int a1] (rf_MM w m) (some (.int r.1)) (rf_MM w r.2) := by
  refine rf_con j_X6_mostOf 3 ⟨by decide +kernel, rfl, Nat.le_of_ble_eq_true rfl⟩ (fun K C hE => ?_)
  unfold g_X6_mostOf at hg
  show rf_V 5 (rf_sh w) K 0 0 0 ([(0, .ref 41), (1, .int a1)], [], rf_MM w m)
  refine rf_seg C [(.aload 0, 1), (.iload 1, 1)] (pc' := 2) (S' := ([(0, .ref 41), (1, .int a1)], [.int a1, .ref 41], rf_MM w m)) (by decide +kernel) rfl trivial ?_
  obtain ⟨y0, m0, hc0, hg⟩ := rf_b_some hg
  refine rf_callv C rf_fit0 j_X6_lengthOf (ci := 6) (As := [.int a1]) (rest := []) mw_X6_lengthOf (c_X6_lengthOf hc0) (by decide) rfl (by decide) lk_6_48 rfl rfl (Nat.le_of_ble_eq_true rfl) (by decide +kernel) ?_
  show rf_V 5 (rf_sh w) K 0 0 5 ([(0, .ref 41), (1, .int a1)], [.int y0], rf_MM w m0)
  obtain ⟨q1, hg⟩ := rf_g_some hg
  refine rf_seg C [(.aload 0, 1), (.invokeinterface 6 0, 3), (.iload 1, 1), (.iaload, 1), (.iadd, 1)] (pc' := 12) (S' := ([(0, .ref 41), (1, .int a1)], [.int (y0 + (m0.1 42 (Int32.toNatClampNeg a1)))], rf_MM w m0)) (by decide +kernel) rfl (rf_in_of q1) ?_
  obtain ⟨x2, hx2, hg⟩ := rf_vi_some hg
  refine rf_vi_top hx2 ?_
  refine rf_seg C [(.istore 2, 1), (.aload 0, 1), (.iload 1, 1)] (pc' := 15) (S' := ([(2, .int x2), (0, .ref 41), (1, .int a1)], [.int a1, .ref 41], rf_MM w m0)) (by decide +kernel) rfl trivial ?_
  obtain ⟨y3, m3, hc3, hg⟩ := rf_b_some hg
  refine rf_callv C rf_fit0 j_X6_twinOf (ci := 6) (As := [.int a1]) (rest := []) mw_X6_twinOf (c_X6_twinOf hc3) (by decide) rfl (by decide) lk_6_57 rfl rfl (Nat.le_of_ble_eq_true rfl) (by decide +kernel) ?_
  show rf_V 5 (rf_sh w) K 0 0 18 ([(2, .int x2), (0, .ref 41), (1, .int a1)], [.int y3], rf_MM w m3)
  refine rf_seg C [(.istore 3, 1), (.iload 3, 1), (.iconst (-1), 1)] (pc' := 21) (S' := ([(3, .int y3), (2, .int x2), (0, .ref 41), (1, .int a1)], [.int ((-1)), .int y3], rf_MM w m3)) (by decide +kernel) rfl trivial ?_
  refine rf_icmp_ne C 5 26 (by decide +kernel) (fun hc => ?_) (fun hc => ?_)
  · replace hg := (if_neg hc).symm.trans hg
    refine rf_seg C [(.aload 0, 1), (.iload 3, 1)] (pc' := 28) (S' := ([(3, .int y3), (2, .int x2), (0, .ref 41), (1, .int a1)], [.int y3, .ref 41], rf_MM w m3)) (by decide +kernel) rfl trivial ?_
    obtain ⟨y4, m4, hc4, hg⟩ := rf_b_some hg
    refine rf_callv C rf_fit0 j_X6_lengthOf (ci := 6) (As := [.int y3]) (rest := []) mw_X6_lengthOf (c_X6_lengthOf hc4) (by decide) rfl (by decide) lk_6_48 rfl rfl (Nat.le_of_ble_eq_true rfl) (by decide +kernel) ?_
    show rf_V 5 (rf_sh w) K 0 0 31 ([(3, .int y3), (2, .int x2), (0, .ref 41), (1, .int a1)], [.int y4], rf_MM w m4)
    obtain ⟨q5, hg⟩ := rf_g_some hg
    refine rf_seg C [(.aload 0, 1), (.invokeinterface 6 0, 3), (.iload 3, 1), (.iaload, 1), (.iadd, 1)] (pc' := 38) (S' := ([(3, .int y3), (2, .int x2), (0, .ref 41), (1, .int a1)], [.int (y4 + (m4.1 42 (Int32.toNatClampNeg y3)))], rf_MM w m4)) (by decide +kernel) rfl (rf_in_of q5) ?_
    obtain ⟨x6, hx6, hg⟩ := rf_vi_some hg
    refine rf_vi_top hx6 ?_
    refine rf_seg C [(.istore 4, 2), (.aload 0, 1), (.iload 1, 1), (.iload 3, 1)] (pc' := 43) (S' := ([(4, .int x6), (3, .int y3), (2, .int x2), (0, .ref 41), (1, .int a1)], [.int y3, .int a1, .ref 41], rf_MM w m4)) (by decide +kernel) rfl trivial ?_
    obtain ⟨y7, m7, hc7, hg⟩ := rf_b_some hg
    refine rf_callv C rf_fit0 j_X6_areTorn (ci := 6) (As := [.int a1, .int y3]) (rest := []) mw_X6_areTorn (c_X6_areTorn hc7) (by decide) rfl (by decide) lk_6_60 rfl rfl (Nat.le_of_ble_eq_true rfl) (by decide +kernel) ?_
    show rf_V 5 (rf_sh w) K 0 0 46 ([(4, .int x6), (3, .int y3), (2, .int x2), (0, .ref 41), (1, .int a1)], [.int y7], rf_MM w m7)
    refine rf_if_eq C 12 58 (by decide +kernel) (fun hc => ?_) (fun hc => ?_)
    · replace hg := (if_pos hc).symm.trans hg
      refine rf_seg C [(.iload 2, 1), (.iload 4, 2)] (pc' := 61) (S' := ([(4, .int x6), (3, .int y3), (2, .int x2), (0, .ref 41), (1, .int a1)], [.int x6, .int x2], rf_MM w m7)) (by decide +kernel) rfl trivial ?_
      obtain ⟨y8, m8, hc8, hg⟩ := rf_b_some hg
      refine rf_calls C rf_fit0 j_min (As := [.int x2, .int x6]) (rest := []) mw_min (c_min hc8) (by decide) lk_6_64 rfl rfl (Nat.le_of_ble_eq_true rfl) (by decide +kernel) ?_
      show rf_V 5 (rf_sh w) K 0 0 64 ([(4, .int x6), (3, .int y3), (2, .int x2), (0, .ref 41), (1, .int a1)], [.int y8], rf_MM w m8)
      obtain rfl := Option.some.inj hg
      exact rf_iret C hE (by decide +kernel)
    · replace hg := (if_neg hc).symm.trans hg
      refine rf_seg C [(.iload 2, 1), (.iload 4, 2)] (pc' := 52) (S' := ([(4, .int x6), (3, .int y3), (2, .int x2), (0, .ref 41), (1, .int a1)], [.int x6, .int x2], rf_MM w m7)) (by decide +kernel) rfl trivial ?_
      obtain ⟨y9, m9, hc9, hg⟩ := rf_b_some hg
      refine rf_calls C rf_fit0 j_max (As := [.int x2, .int x6]) (rest := []) mw_max (c_max hc9) (by decide) lk_6_67 rfl rfl (Nat.le_of_ble_eq_true rfl) (by decide +kernel) ?_
      show rf_V 5 (rf_sh w) K 0 0 55 ([(4, .int x6), (3, .int y3), (2, .int x2), (0, .ref 41), (1, .int a1)], [.int y9], rf_MM w m9)
      refine rf_goto C 9 64 (by decide +kernel) ?_
      obtain rfl := Option.some.inj hg
      exact rf_iret C hE (by decide +kernel)
  · replace hg := (if_pos hc).symm.trans hg
    refine rf_seg C [(.iload 2, 1)] (pc' := 25) (S' := ([(3, .int y3), (2, .int x2), (0, .ref 41), (1, .int a1)], [.int x2], rf_MM w m3)) (by decide +kernel) rfl trivial ?_
    obtain rfl := Option.some.inj hg
    exact rf_iret C hE (by decide +kernel)
-- X4_apartFrom
abbrev j_X4_apartFrom : rf_J := (4, yX4_apartFrom, cX4_apartFrom, 2, (some .int))
theorem mw_X4_apartFrom : rf_mv j_X4_apartFrom (rf_R 4) 1 := ⟨⟨rf_mem 82 (by decide +kernel), rf_mem 82 (by decide +kernel), rf_mem 1 (by decide +kernel), rf_mem 82 (by decide +kernel)⟩, by decide +kernel, by decide⟩
def g_X4_apartFrom (w : rf_w) (m : rf_m) (a1 : Int32) : Option (Int32 × rf_m) := rf_b (g_X6_leastOf w m a1) fun y0 m0 => rf_b (g_X6_mostOf w m0 a1) fun y1 m1 => rf_b (g_max w m1 (y0 - (m0.1 175 3)) ((m0.1 175 2) - y1)) fun y2 m2 => rf_b (g_max w m2 0 y2) fun y3 m3 => some (y3, m3)
theorem c_X4_apartFrom {w : rf_w} {m : rf_m} {a1 : Int32} {r : Int32 × rf_m} (hg : g_X4_apartFrom w m a1 = some r) : rf_Con j_X4_apartFrom 4 (rf_sh w) [.ref 175, .int a1] (rf_MM w m) (some (.int r.1)) (rf_MM w r.2) := by
  refine rf_con j_X4_apartFrom 4 ⟨by decide +kernel, rfl, Nat.le_of_ble_eq_true rfl⟩ (fun K C hE => ?_)
  unfold g_X4_apartFrom at hg
  show rf_V 2 (rf_sh w) K 0 0 0 ([(0, .ref 175), (1, .int a1)], [], rf_MM w m)
  refine rf_seg C [(.iconst 0, 1), (.aload 0, 1), (.invokeinterface 4 6, 3), (.iload 1, 1)] (pc' := 6) (S' := ([(0, .ref 175), (1, .int a1)], [.int a1, .ref 41, .int 0], rf_MM w m)) (by decide +kernel) rfl trivial ?_
  obtain ⟨y0, m0, hc0, hg⟩ := rf_b_some hg
  refine rf_callv C rf_fit0 j_X6_leastOf (ci := 6) (As := [.int a1]) (rest := [.int 0]) mw_X6_leastOf (c_X6_leastOf hc0) (by decide) rfl (by decide) lk_4_74 rfl rfl (Nat.le_of_ble_eq_true rfl) (by decide +kernel) ?_
  show rf_V 2 (rf_sh w) K 0 0 9 ([(0, .ref 175), (1, .int a1)], [.int y0, .int 0], rf_MM w m0)
  refine rf_seg C [(.aload 0, 1), (.invokeinterface 4 3, 3), (.isub, 1), (.aload 0, 1), (.invokeinterface 4 2, 3), (.aload 0, 1), (.invokeinterface 4 6, 3), (.iload 1, 1)] (pc' := 23) (S' := ([(0, .ref 175), (1, .int a1)], [.int a1, .ref 41, .int (m0.1 175 2), .int (y0 - (m0.1 175 3)), .int 0], rf_MM w m0)) (by decide +kernel) rfl trivial ?_
  obtain ⟨y1, m1, hc1, hg⟩ := rf_b_some hg
  refine rf_callv C rf_fit0 j_X6_mostOf (ci := 6) (As := [.int a1]) (rest := [.int (m0.1 175 2), .int (y0 - (m0.1 175 3)), .int 0]) mw_X6_mostOf (c_X6_mostOf hc1) (by decide) rfl (by decide) lk_4_77 rfl rfl (Nat.le_of_ble_eq_true rfl) (by decide +kernel) ?_
  show rf_V 2 (rf_sh w) K 0 0 26 ([(0, .ref 175), (1, .int a1)], [.int y1, .int (m0.1 175 2), .int (y0 - (m0.1 175 3)), .int 0], rf_MM w m1)
  refine rf_seg C [(.isub, 1)] (pc' := 27) (S' := ([(0, .ref 175), (1, .int a1)], [.int ((m0.1 175 2) - y1), .int (y0 - (m0.1 175 3)), .int 0], rf_MM w m1)) (by decide +kernel) rfl trivial ?_
  obtain ⟨y2, m2, hc2, hg⟩ := rf_b_some hg
  refine rf_calls C rf_fit0 j_max (As := [.int (y0 - (m0.1 175 3)), .int ((m0.1 175 2) - y1)]) (rest := [.int 0]) mw_max (c_max hc2) (by decide) lk_4_100 rfl rfl (Nat.le_of_ble_eq_true rfl) (by decide +kernel) ?_
  show rf_V 2 (rf_sh w) K 0 0 30 ([(0, .ref 175), (1, .int a1)], [.int y2, .int 0], rf_MM w m2)
  obtain ⟨y3, m3, hc3, hg⟩ := rf_b_some hg
  refine rf_calls C rf_fit0 j_max (As := [.int 0, .int y2]) (rest := []) mw_max (c_max hc3) (by decide) lk_4_100 rfl rfl (Nat.le_of_ble_eq_true rfl) (by decide +kernel) ?_
  show rf_V 2 (rf_sh w) K 0 0 33 ([(0, .ref 175), (1, .int a1)], [.int y3], rf_MM w m3)
  obtain rfl := Option.some.inj hg
  exact rf_iret C hE (by decide +kernel)
-- X4_placeOf
abbrev j_X4_placeOf : rf_J := (4, yX4_placeOf, cX4_placeOf, 4, (some .int))
theorem mw_X4_placeOf : rf_mv j_X4_placeOf (rf_R 4) 2 := ⟨⟨rf_mem 79 (by decide +kernel), rf_mem 79 (by decide +kernel), rf_mem 1 (by decide +kernel), rf_mem 79 (by decide +kernel)⟩, by decide +kernel, by decide⟩
def g_X4_placeOf_2_b (w : rf_w) (rec2 : Int32 → Int32 → Int32 → rf_m → Option (Int32 × rf_m)) (a1 : Int32) (a2 : Int32) (a3 : Int32) (m : rf_m) : Option (Int32 × rf_m) := (if 3 ≤ a3 then some ((-1), m) else rf_g (rf_in ((a2 * 3) + a3) 24) ((if (m.1 178 (Int32.toNatClampNeg ((a2 * 3) + a3))) = a1 then some (a3, m) else rec2 a1 a2 (a3 + 1) m)))
def g_X4_placeOf_2 (w : rf_w) : Nat → Int32 → Int32 → Int32 → rf_m → Option (Int32 × rf_m)
  | 0, _, _, _, _ => none
  | n + 1, a1, a2, a3, m => g_X4_placeOf_2_b w (g_X4_placeOf_2 w n) a1 a2 a3 m
def g_X4_placeOf (w : rf_w) (m : rf_m) (a1 : Int32) (a2 : Int32) : Option (Int32 × rf_m) := g_X4_placeOf_2 w rf_fuel a1 a2 0 m
theorem s_X4_placeOf_2_b {w : rf_w} {K : rf_K} {r : Int32 × rf_m} (C : rf_Ctx 4 cX4_placeOf 4 1 (rf_sh w) K) (hE : rf_End (some .int) K (rf_sh w) 0 0 (some (.int r.1)) (rf_MM w r.2)) {rec2 : Int32 → Int32 → Int32 → rf_m → Option (Int32 × rf_m)} (hr2 : ∀ (a1 : Int32) (a2 : Int32) (a3 : Int32) (m : rf_m), rec2 a1 a2 a3 m = some r → rf_V 4 (rf_sh w) K 0 0 2 ([(0, .ref 175), (1, .int a1), (2, .int a2), (3, .int a3)], [], rf_MM w m)) (a1 : Int32) (a2 : Int32) (a3 : Int32) (m : rf_m) (hg : g_X4_placeOf_2_b w rec2 a1 a2 a3 m = some r) : rf_V 4 (rf_sh w) K 0 0 2 ([(0, .ref 175), (1, .int a1), (2, .int a2), (3, .int a3)], [], rf_MM w m) := by
  unfold g_X4_placeOf_2_b at hg
  refine rf_seg C [(.iload 3, 1), (.iconst 3, 1)] (pc' := 4) (S' := ([(0, .ref 175), (1, .int a1), (2, .int a2), (3, .int a3)], [.int 3, .int a3], rf_MM w m)) (by decide +kernel) rfl trivial ?_
  refine rf_icmp_ge C 25 29 (by decide +kernel) (fun hc => ?_) (fun hc => ?_)
  · replace hg := (if_pos hc).symm.trans hg
    refine rf_seg C [(.iconst (-1), 1)] (pc' := 30) (S' := ([(0, .ref 175), (1, .int a1), (2, .int a2), (3, .int a3)], [.int ((-1))], rf_MM w m)) (by decide +kernel) rfl trivial ?_
    obtain rfl := Option.some.inj hg
    exact rf_iret C hE (by decide +kernel)
  · replace hg := (if_neg hc).symm.trans hg
    obtain ⟨q0, hg⟩ := rf_g_some hg
    refine rf_seg C [(.aload 0, 1), (.invokeinterface 4 9, 3), (.iload 2, 1), (.iconst 3, 1), (.imul, 1), (.iload 3, 1), (.iadd, 1), (.iaload, 1), (.iload 1, 1)] (pc' := 18) (S' := ([(0, .ref 175), (1, .int a1), (2, .int a2), (3, .int a3)], [.int a1, .int (m.1 178 (Int32.toNatClampNeg ((a2 * 3) + a3)))], rf_MM w m)) (by decide +kernel) rfl (rf_in_of q0) ?_
    refine rf_icmp_ne C 5 23 (by decide +kernel) (fun hc => ?_) (fun hc => ?_)
    · replace hg := (if_neg hc).symm.trans hg
      refine rf_seg C [(.iinc 3 1, 3)] (pc' := 26) (S' := ([(3, .int (a3 + 1)), (0, .ref 175), (1, .int a1), (2, .int a2)], [], rf_MM w m)) (by decide +kernel) rfl trivial ?_
      refine rf_goto C (-24) 2 (by decide +kernel) ?_
      refine rf_few [1, 2, 3, 0] rfl ?_
      exact hr2 a1 a2 (a3 + 1) m hg
    · replace hg := (if_pos hc).symm.trans hg
      refine rf_seg C [(.iload 3, 1)] (pc' := 22) (S' := ([(0, .ref 175), (1, .int a1), (2, .int a2), (3, .int a3)], [.int a3], rf_MM w m)) (by decide +kernel) rfl trivial ?_
      obtain rfl := Option.some.inj hg
      exact rf_iret C hE (by decide +kernel)
theorem s_X4_placeOf_2 {w : rf_w} {K : rf_K} {r : Int32 × rf_m} (C : rf_Ctx 4 cX4_placeOf 4 1 (rf_sh w) K) (hE : rf_End (some .int) K (rf_sh w) 0 0 (some (.int r.1)) (rf_MM w r.2)) (n : Nat) : ∀ (a1 : Int32) (a2 : Int32) (a3 : Int32) (m : rf_m), g_X4_placeOf_2 w n a1 a2 a3 m = some r → rf_V 4 (rf_sh w) K 0 0 2 ([(0, .ref 175), (1, .int a1), (2, .int a2), (3, .int a3)], [], rf_MM w m) := by
  induction n with
  | zero => intro a1 a2 a3 m hg; cases hg
  | succ n ih => intro a1 a2 a3 m hg; exact s_X4_placeOf_2_b C hE ih a1 a2 a3 m hg
theorem c_X4_placeOf {w : rf_w} {m : rf_m} {a1 : Int32} {a2 : Int32} {r : Int32 × rf_m} (hg : g_X4_placeOf w m a1 a2 = some r) : rf_Con j_X4_placeOf 1 (rf_sh w) [.ref 175, .int a1, .int a2] (rf_MM w m) (some (.int r.1)) (rf_MM w r.2) := by
  refine rf_con j_X4_placeOf 1 ⟨by decide +kernel, rfl, Nat.le_of_ble_eq_true rfl⟩ (fun K C hE => ?_)
  unfold g_X4_placeOf at hg
  show rf_V 4 (rf_sh w) K 0 0 0 ([(0, .ref 175), (1, .int a1), (2, .int a2)], [], rf_MM w m)
  refine rf_seg C [(.iconst 0, 1), (.istore 3, 1)] (pc' := 2) (S' := ([(3, .int 0), (0, .ref 175), (1, .int a1), (2, .int a2)], [], rf_MM w m)) (by decide +kernel) rfl trivial ?_
  refine rf_few [1, 2, 3, 0] rfl ?_
  exact s_X4_placeOf_2 C hE rf_fuel a1 a2 0 m hg
-- X4_carriedLeast
abbrev j_X4_carriedLeast : rf_J := (4, yX4_carriedLeast, cX4_carriedLeast, 5, (some .long))
theorem mw_X4_carriedLeast : rf_mv j_X4_carriedLeast (rf_R 4) 3 := ⟨⟨rf_mem 79 (by decide +kernel), rf_mem 79 (by decide +kernel), rf_mem 1 (by decide +kernel), rf_mem 79 (by decide +kernel)⟩, by decide +kernel, by decide⟩
def g_X4_carriedLeast (w : rf_w) (m : rf_m) (a1 : Int64) (a3 : Int32) (a4 : Int32) : Option (Int64 × rf_m) := rf_g (rf_in a4 24) ((if (m.1 180 (Int32.toNatClampNeg a4)) ≤ 0 then some (0, m) else rf_g (rf_in a3 24) (rf_g (rf_in a4 24) (rf_g (rf_nzl (Int32.toInt64 (m.1 180 (Int32.toNatClampNeg a4)))) (some ((a1 * (Int32.toInt64 (m.1 179 (Int32.toNatClampNeg a3)))) / (Int32.toInt64 (m.1 180 (Int32.toNatClampNeg a4))), m))))))
theorem c_X4_carriedLeast {w : rf_w} {m : rf_m} {a1 : Int64} {a3 : Int32} {a4 : Int32} {r : Int64 × rf_m} (hg : g_X4_carriedLeast w m a1 a3 a4 = some r) : rf_Con j_X4_carriedLeast 1 (rf_sh w) [.ref 175, .long a1, .int a3, .int a4] (rf_MM w m) (some (.long r.1)) (rf_MM w r.2) := by
  refine rf_con j_X4_carriedLeast 1 ⟨by decide +kernel, rfl, Nat.le_of_ble_eq_true rfl⟩ (fun K C hE => ?_)
  unfold g_X4_carriedLeast at hg
  show rf_V 5 (rf_sh w) K 0 0 0 ([(0, .ref 175), (1, .long a1), (3, .int a3), (4, .int a4)], [], rf_MM w m)
  obtain ⟨q0, hg⟩ := rf_g_some hg
  refine rf_seg C [(.aload 0, 1), (.invokeinterface 4 11, 3), (.iload 4, 2), (.iaload, 1)] (pc' := 7) (S' := ([(0, .ref 175), (1, .long a1), (3, .int a3), (4, .int a4)], [.int (m.1 180 (Int32.toNatClampNeg a4))], rf_MM w m)) (by decide +kernel) rfl (rf_in_of q0) ?_
  refine rf_if_le C 24 31 (by decide +kernel) (fun hc => ?_) (fun hc => ?_)
  · replace hg := (if_pos hc).symm.trans hg
    refine rf_seg C [(.goto_w 0, 1)] (pc' := 32) (S' := ([(0, .ref 175), (1, .long a1), (3, .int a3), (4, .int a4)], [.long 0], rf_MM w m)) (by decide +kernel) rfl trivial ?_
    obtain rfl := Option.some.inj hg
    exact rf_lret C hE (by decide +kernel)
  · replace hg := (if_neg hc).symm.trans hg
    obtain ⟨q1, hg⟩ := rf_g_some hg
    obtain ⟨q2, hg⟩ := rf_g_some hg
    obtain ⟨q3, hg⟩ := rf_g_some hg
    refine rf_seg C [(.lload 1, 1), (.aload 0, 1), (.invokeinterface 4 10, 3), (.iload 3, 1), (.iaload, 1), (.i2l, 1), (.lmul, 1), (.aload 0, 1), (.invokeinterface 4 11, 3), (.iload 4, 2), (.iaload, 1), (.i2l, 1), (.ldiv, 1)] (pc' := 28) (S' := ([(0, .ref 175), (1, .long a1), (3, .int a3), (4, .int a4)], [.long ((a1 * (Int32.toInt64 (m.1 179 (Int32.toNatClampNeg a3)))) / (Int32.toInt64 (m.1 180 (Int32.toNatClampNeg a4))))], rf_MM w m)) (by decide +kernel) rfl (by exact ⟨(rf_in_of q1), (rf_in_of q2), (rf_nzl_of q3)⟩) ?_
    refine rf_goto C 4 32 (by decide +kernel) ?_
    obtain rfl := Option.some.inj hg
    exact rf_lret C hE (by decide +kernel)
-- X4_carriedMost
abbrev j_X4_carriedMost : rf_J := (4, yX4_carriedMost, cX4_carriedMost, 5, (some .long))
theorem mw_X4_carriedMost : rf_mv j_X4_carriedMost (rf_R 4) 3 := ⟨⟨rf_mem 79 (by decide +kernel), rf_mem 79 (by decide +kernel), rf_mem 1 (by decide +kernel), rf_mem 79 (by decide +kernel)⟩, by decide +kernel, by decide⟩
def g_X4_carriedMost (w : rf_w) (m : rf_m) (a1 : Int64) (a3 : Int32) (a4 : Int32) : Option (Int64 × rf_m) := rf_g (rf_in a4 24) ((if (m.1 179 (Int32.toNatClampNeg a4)) ≤ 0 then some (1000000001, m) else rf_g (rf_in a3 24) (rf_g (rf_in a4 24) (rf_g (rf_in a4 24) (rf_g (rf_nzl (Int32.toInt64 (m.1 179 (Int32.toNatClampNeg a4)))) (some ((((a1 * (Int32.toInt64 (m.1 180 (Int32.toNatClampNeg a3)))) + (Int32.toInt64 (m.1 179 (Int32.toNatClampNeg a4)))) - 1) / (Int32.toInt64 (m.1 179 (Int32.toNatClampNeg a4))), m)))))))
theorem c_X4_carriedMost {w : rf_w} {m : rf_m} {a1 : Int64} {a3 : Int32} {a4 : Int32} {r : Int64 × rf_m} (hg : g_X4_carriedMost w m a1 a3 a4 = some r) : rf_Con j_X4_carriedMost 1 (rf_sh w) [.ref 175, .long a1, .int a3, .int a4] (rf_MM w m) (some (.long r.1)) (rf_MM w r.2) := by
  refine rf_con j_X4_carriedMost 1 ⟨by decide +kernel, rfl, Nat.le_of_ble_eq_true rfl⟩ (fun K C hE => ?_)
  unfold g_X4_carriedMost at hg
  show rf_V 5 (rf_sh w) K 0 0 0 ([(0, .ref 175), (1, .long a1), (3, .int a3), (4, .int a4)], [], rf_MM w m)
  obtain ⟨q0, hg⟩ := rf_g_some hg
  refine rf_seg C [(.aload 0, 1), (.invokeinterface 4 10, 3), (.iload 4, 2), (.iaload, 1)] (pc' := 7) (S' := ([(0, .ref 175), (1, .long a1), (3, .int a3), (4, .int a4)], [.int (m.1 179 (Int32.toNatClampNeg a4))], rf_MM w m)) (by decide +kernel) rfl (rf_in_of q0) ?_
  refine rf_if_le C 35 42 (by decide +kernel) (fun hc => ?_) (fun hc => ?_)
  · replace hg := (if_pos hc).symm.trans hg
    refine rf_seg C [(.goto_w 1000000001, 3)] (pc' := 45) (S' := ([(0, .ref 175), (1, .long a1), (3, .int a3), (4, .int a4)], [.long 1000000001], rf_MM w m)) (by decide +kernel) rfl trivial ?_
    obtain rfl := Option.some.inj hg
    exact rf_lret C hE (by decide +kernel)
  · replace hg := (if_neg hc).symm.trans hg
    obtain ⟨q1, hg⟩ := rf_g_some hg
    obtain ⟨q2, hg⟩ := rf_g_some hg
    obtain ⟨q3, hg⟩ := rf_g_some hg
    obtain ⟨q4, hg⟩ := rf_g_some hg
    refine rf_seg C [(.lload 1, 1), (.aload 0, 1), (.invokeinterface 4 11, 3), (.iload 3, 1), (.iaload, 1), (.i2l, 1), (.lmul, 1), (.aload 0, 1), (.invokeinterface 4 10, 3), (.iload 4, 2), (.iaload, 1), (.i2l, 1), (.ladd, 1), (.goto_w 1, 1), (.lsub, 1), (.aload 0, 1), (.invokeinterface 4 10, 3), (.iload 4, 2), (.iaload, 1), (.i2l, 1), (.ldiv, 1)] (pc' := 39) (S' := ([(0, .ref 175), (1, .long a1), (3, .int a3), (4, .int a4)], [.long ((((a1 * (Int32.toInt64 (m.1 180 (Int32.toNatClampNeg a3)))) + (Int32.toInt64 (m.1 179 (Int32.toNatClampNeg a4)))) - 1) / (Int32.toInt64 (m.1 179 (Int32.toNatClampNeg a4))))], rf_MM w m)) (by decide +kernel) rfl (by exact ⟨(rf_in_of q1), (rf_in_of q2), (rf_in_of q3), (rf_nzl_of q4)⟩) ?_
    refine rf_goto C 6 45 (by decide +kernel) ?_
    obtain rfl := Option.some.inj hg
    exact rf_lret C hE (by decide +kernel)
-- X4_compareRows
abbrev j_X4_compareRows : rf_J := (4, yX4_compareRows, cX4_compareRows, 4, (some .int))
theorem mw_X4_compareRows : rf_mv j_X4_compareRows (rf_R 4) 2 := ⟨⟨rf_mem 78 (by decide +kernel), rf_mem 78 (by decide +kernel), rf_mem 1 (by decide +kernel), rf_mem 78 (by decide +kernel)⟩, by decide +kernel, by decide⟩
def g_X4_compareRows_2_b (w : rf_w) (rec2 : Int32 → Int32 → Int32 → rf_m → Option (Int32 × rf_m)) (a1 : Int32) (a2 : Int32) (a3 : Int32) (m : rf_m) : Option (Int32 × rf_m) := (if (a1 + a2) ≤ a3 then some (0, m) else rf_g (rf_in a3 12) (rf_g (rf_in a3 12) ((if (m.1 181 (Int32.toNatClampNeg a3)) = (m.1 182 (Int32.toNatClampNeg a3)) then rec2 a1 a2 (a3 + 1) m else rf_g (rf_in a3 12) (rf_g (rf_in a3 12) (some ((m.1 181 (Int32.toNatClampNeg a3)) - (m.1 182 (Int32.toNatClampNeg a3)), m)))))))
def g_X4_compareRows_2 (w : rf_w) : Nat → Int32 → Int32 → Int32 → rf_m → Option (Int32 × rf_m)
  | 0, _, _, _, _ => none
  | n + 1, a1, a2, a3, m => g_X4_compareRows_2_b w (g_X4_compareRows_2 w n) a1 a2 a3 m
def g_X4_compareRows (w : rf_w) (m : rf_m) (a1 : Int32) (a2 : Int32) : Option (Int32 × rf_m) := g_X4_compareRows_2 w rf_fuel a1 a2 a1 m
theorem s_X4_compareRows_2_b {w : rf_w} {K : rf_K} {r : Int32 × rf_m} (C : rf_Ctx 4 cX4_compareRows 4 1 (rf_sh w) K) (hE : rf_End (some .int) K (rf_sh w) 0 0 (some (.int r.1)) (rf_MM w r.2)) {rec2 : Int32 → Int32 → Int32 → rf_m → Option (Int32 × rf_m)} (hr2 : ∀ (a1 : Int32) (a2 : Int32) (a3 : Int32) (m : rf_m), rec2 a1 a2 a3 m = some r → rf_V 4 (rf_sh w) K 0 0 2 ([(0, .ref 175), (1, .int a1), (2, .int a2), (3, .int a3)], [], rf_MM w m)) (a1 : Int32) (a2 : Int32) (a3 : Int32) (m : rf_m) (hg : g_X4_compareRows_2_b w rec2 a1 a2 a3 m = some r) : rf_V 4 (rf_sh w) K 0 0 2 ([(0, .ref 175), (1, .int a1), (2, .int a2), (3, .int a3)], [], rf_MM w m) := by
  unfold g_X4_compareRows_2_b at hg
  refine rf_seg C [(.iload 3, 1), (.iload 1, 1), (.iload 2, 1), (.iadd, 1)] (pc' := 6) (S' := ([(0, .ref 175), (1, .int a1), (2, .int a2), (3, .int a3)], [.int (a1 + a2), .int a3], rf_MM w m)) (by decide +kernel) rfl trivial ?_
  refine rf_icmp_ge C 38 44 (by decide +kernel) (fun hc => ?_) (fun hc => ?_)
  · replace hg := (if_pos hc).symm.trans hg
    refine rf_seg C [(.iconst 0, 1)] (pc' := 45) (S' := ([(0, .ref 175), (1, .int a1), (2, .int a2), (3, .int a3)], [.int 0], rf_MM w m)) (by decide +kernel) rfl trivial ?_
    obtain rfl := Option.some.inj hg
    exact rf_iret C hE (by decide +kernel)
  · replace hg := (if_neg hc).symm.trans hg
    obtain ⟨q0, hg⟩ := rf_g_some hg
    obtain ⟨q1, hg⟩ := rf_g_some hg
    refine rf_seg C [(.aload 0, 1), (.invokeinterface 4 13, 3), (.iload 3, 1), (.iaload, 1), (.aload 0, 1), (.invokeinterface 4 14, 3), (.iload 3, 1), (.iaload, 1)] (pc' := 21) (S' := ([(0, .ref 175), (1, .int a1), (2, .int a2), (3, .int a3)], [.int (m.1 182 (Int32.toNatClampNeg a3)), .int (m.1 181 (Int32.toNatClampNeg a3))], rf_MM w m)) (by decide +kernel) rfl (by exact ⟨(rf_in_of q0), (rf_in_of q1)⟩) ?_
    refine rf_icmp_eq C 17 38 (by decide +kernel) (fun hc => ?_) (fun hc => ?_)
    · replace hg := (if_pos hc).symm.trans hg
      refine rf_seg C [(.iinc 3 1, 3)] (pc' := 41) (S' := ([(3, .int (a3 + 1)), (0, .ref 175), (1, .int a1), (2, .int a2)], [], rf_MM w m)) (by decide +kernel) rfl trivial ?_
      refine rf_goto C (-39) 2 (by decide +kernel) ?_
      refine rf_few [1, 2, 3, 0] rfl ?_
      exact hr2 a1 a2 (a3 + 1) m hg
    · replace hg := (if_neg hc).symm.trans hg
      obtain ⟨q2, hg⟩ := rf_g_some hg
      obtain ⟨q3, hg⟩ := rf_g_some hg
      refine rf_seg C [(.aload 0, 1), (.invokeinterface 4 13, 3), (.iload 3, 1), (.iaload, 1), (.aload 0, 1), (.invokeinterface 4 14, 3), (.iload 3, 1), (.iaload, 1), (.isub, 1)] (pc' := 37) (S' := ([(0, .ref 175), (1, .int a1), (2, .int a2), (3, .int a3)], [.int ((m.1 181 (Int32.toNatClampNeg a3)) - (m.1 182 (Int32.toNatClampNeg a3)))], rf_MM w m)) (by decide +kernel) rfl (by exact ⟨(rf_in_of q2), (rf_in_of q3)⟩) ?_
      obtain rfl := Option.some.inj hg
      exact rf_iret C hE (by decide +kernel)
theorem s_X4_compareRows_2 {w : rf_w} {K : rf_K} {r : Int32 × rf_m} (C : rf_Ctx 4 cX4_compareRows 4 1 (rf_sh w) K) (hE : rf_End (some .int) K (rf_sh w) 0 0 (some (.int r.1)) (rf_MM w r.2)) (n : Nat) : ∀ (a1 : Int32) (a2 : Int32) (a3 : Int32) (m : rf_m), g_X4_compareRows_2 w n a1 a2 a3 m = some r → rf_V 4 (rf_sh w) K 0 0 2 ([(0, .ref 175), (1, .int a1), (2, .int a2), (3, .int a3)], [], rf_MM w m) := by
  induction n with
  | zero => intro a1 a2 a3 m hg; cases hg
  | succ n ih => intro a1 a2 a3 m hg; exact s_X4_compareRows_2_b C hE ih a1 a2 a3 m hg
theorem c_X4_compareRows {w : rf_w} {m : rf_m} {a1 : Int32} {a2 : Int32} {r : Int32 × rf_m} (hg : g_X4_compareRows w m a1 a2 = some r) : rf_Con j_X4_compareRows 1 (rf_sh w) [.ref 175, .int a1, .int a2] (rf_MM w m) (some (.int r.1)) (rf_MM w r.2) := by
  refine rf_con j_X4_compareRows 1 ⟨by decide +kernel, rfl, Nat.le_of_ble_eq_true rfl⟩ (fun K C hE => ?_)
  unfold g_X4_compareRows at hg
  show rf_V 4 (rf_sh w) K 0 0 0 ([(0, .ref 175), (1, .int a1), (2, .int a2)], [], rf_MM w m)
  refine rf_seg C [(.iload 1, 1), (.istore 3, 1)] (pc' := 2) (S' := ([(3, .int a1), (0, .ref 175), (1, .int a1), (2, .int a2)], [], rf_MM w m)) (by decide +kernel) rfl trivial ?_
  refine rf_few [1, 2, 3, 0] rfl ?_
  exact s_X4_compareRows_2 C hE rf_fuel a1 a2 a1 m hg
-- X4_isBetter
abbrev j_X4_isBetter : rf_J := (4, yX4_isBetter, cX4_isBetter, 5, (some .boolean))
theorem mw_X4_isBetter : rf_mv j_X4_isBetter (rf_R 4) 2 := ⟨⟨rf_mem 78 (by decide +kernel), rf_mem 78 (by decide +kernel), rf_mem 1 (by decide +kernel), rf_mem 78 (by decide +kernel)⟩, by decide +kernel, by decide⟩
def g_X4_isBetter_22 (w : rf_w) (a2 : Int64) (m : rf_m) : Option (Int32 × rf_m) := (if (m.1 175 15) = ((-1)) then some (1, m) else (if (0 : Int32) ≤ (lg_cmp a2 ((m.2 175 17) - (m.2 175 16))) then some (0, m) else some (1, m)))
def g_X4_isBetter (w : rf_w) (m : rf_m) (a1 : Int32) (a2 : Int64) : Option (Int32 × rf_m) := (if (m.1 175 15) = ((-1)) then g_X4_isBetter_22 w a2 m else (if (lg_cmp a2 ((m.2 175 17) - (m.2 175 16))) = 0 then (if a1 = (m.1 175 15) then rf_b (g_X4_compareRows w m 0 a1) fun y0 m0 => (if y0 < 0 then some (1, m0) else (if y0 = 0 then rf_b (g_X4_compareRows w m0 6 a1) fun y1 m1 => (if (0 : Int32) ≤ y1 then some (0, m1) else some (1, m1)) else some (0, m0))) else (if (m.1 175 15) ≤ a1 then some (0, m) else some (1, m))) else g_X4_isBetter_22 w a2 m))
theorem s_X4_isBetter_22 {w : rf_w} {K : rf_K} {r : Int32 × rf_m} (C : rf_Ctx 4 cX4_isBetter 5 2 (rf_sh w) K) (hE : rf_End (some .boolean) K (rf_sh w) 0 0 (some (.int r.1)) (rf_MM w r.2)) (a2 : Int64) (m : rf_m) (hg : g_X4_isBetter_22 w a2 m = some r) : rf_V 5 (rf_sh w) K 0 0 22 ([(0, .ref 175), (2, .long a2)], [], rf_MM w m) := by
  unfold g_X4_isBetter_22 at hg
  refine rf_seg C [(.aload 0, 1), (.invokeinterface 4 15, 3), (.iconst (-1), 1)] (pc' := 27) (S' := ([(0, .ref 175), (2, .long a2)], [.int ((-1)), .int (m.1 175 15)], rf_MM w m)) (by decide +kernel) rfl trivial ?_
  refine rf_icmp_eq C 17 44 (by decide +kernel) (fun hc => ?_) (fun hc => ?_)
  · replace hg := (if_pos hc).symm.trans hg
    refine rf_seg C [(.iconst 1, 1)] (pc' := 45) (S' := ([(0, .ref 175), (2, .long a2)], [.int 1], rf_MM w m)) (by decide +kernel) rfl trivial ?_
    refine rf_goto C 4 49 (by decide +kernel) ?_
    obtain rfl := Option.some.inj hg
    exact rf_zret C hE (by decide) (by decide +kernel)
  · replace hg := (if_neg hc).symm.trans hg
    refine rf_seg C [(.lload 2, 1), (.aload 0, 1), (.invokeinterface 4 17, 3), (.aload 0, 1), (.invokeinterface 4 16, 3), (.lsub, 1), (.lcmp, 1)] (pc' := 41) (S' := ([(0, .ref 175), (2, .long a2)], [.int (lg_cmp a2 ((m.2 175 17) - (m.2 175 16)))], rf_MM w m)) (by decide +kernel) rfl trivial ?_
    refine rf_if_ge C 7 48 (by decide +kernel) (fun hc => ?_) (fun hc => ?_)
    · replace hg := (if_pos hc).symm.trans hg
      refine rf_seg C [(.iconst 0, 1)] (pc' := 49) (S' := ([(0, .ref 175), (2, .long a2)], [.int 0], rf_MM w m)) (by decide +kernel) rfl trivial ?_
      obtain rfl := Option.some.inj hg
      exact rf_zret C hE (by decide) (by decide +kernel)
    · replace hg := (if_neg hc).symm.trans hg
      refine rf_seg C [(.iconst 1, 1)] (pc' := 45) (S' := ([(0, .ref 175), (2, .long a2)], [.int 1], rf_MM w m)) (by decide +kernel) rfl trivial ?_
      refine rf_goto C 4 49 (by decide +kernel) ?_
      obtain rfl := Option.some.inj hg
      exact rf_zret C hE (by decide) (by decide +kernel)
theorem c_X4_isBetter {w : rf_w} {m : rf_m} {a1 : Int32} {a2 : Int64} {r : Int32 × rf_m} (hg : g_X4_isBetter w m a1 a2 = some r) : rf_Con j_X4_isBetter 2 (rf_sh w) [.ref 175, .int a1, .long a2] (rf_MM w m) (some (.int r.1)) (rf_MM w r.2) := by
  refine rf_con j_X4_isBetter 2 ⟨by decide +kernel, rfl, Nat.le_of_ble_eq_true rfl⟩ (fun K C hE => ?_)
  unfold g_X4_isBetter at hg
  show rf_V 5 (rf_sh w) K 0 0 0 ([(0, .ref 175), (1, .int a1), (2, .long a2)], [], rf_MM w m)
  refine rf_seg C [(.aload 0, 1), (.invokeinterface 4 15, 3), (.iconst (-1), 1)] (pc' := 5) (S' := ([(0, .ref 175), (1, .int a1), (2, .long a2)], [.int ((-1)), .int (m.1 175 15)], rf_MM w m)) (by decide +kernel) rfl trivial ?_
  refine rf_icmp_eq C 17 22 (by decide +kernel) (fun hc => ?_) (fun hc => ?_)
  · replace hg := (if_pos hc).symm.trans hg
    refine rf_few [0, 2] rfl ?_
    exact s_X4_isBetter_22 C hE a2 m hg
  · replace hg := (if_neg hc).symm.trans hg
    refine rf_seg C [(.lload 2, 1), (.aload 0, 1), (.invokeinterface 4 17, 3), (.aload 0, 1), (.invokeinterface 4 16, 3), (.lsub, 1), (.lcmp, 1)] (pc' := 19) (S' := ([(0, .ref 175), (1, .int a1), (2, .long a2)], [.int (lg_cmp a2 ((m.2 175 17) - (m.2 175 16)))], rf_MM w m)) (by decide +kernel) rfl trivial ?_
    refine rf_if_eq C 31 50 (by decide +kernel) (fun hc => ?_) (fun hc => ?_)
    · replace hg := (if_pos hc).symm.trans hg
      refine rf_seg C [(.iload 1, 1), (.aload 0, 1), (.invokeinterface 4 15, 3)] (pc' := 55) (S' := ([(0, .ref 175), (1, .int a1), (2, .long a2)], [.int (m.1 175 15), .int a1], rf_MM w m)) (by decide +kernel) rfl trivial ?_
      refine rf_icmp_eq C 17 72 (by decide +kernel) (fun hc => ?_) (fun hc => ?_)
      · replace hg := (if_pos hc).symm.trans hg
        refine rf_seg C [(.aload 0, 1), (.iconst 0, 1), (.iload 1, 1)] (pc' := 75) (S' := ([(0, .ref 175), (1, .int a1), (2, .long a2)], [.int a1, .int 0, .ref 175], rf_MM w m)) (by decide +kernel) rfl trivial ?_
        obtain ⟨y0, m0, hc0, hg⟩ := rf_b_some hg
        refine rf_callv C rf_fit0 j_X4_compareRows (ci := 4) (As := [.int 0, .int a1]) (rest := []) mw_X4_compareRows (c_X4_compareRows hc0) (by decide) rfl (by decide) lk_4_174 rfl rfl (Nat.le_of_ble_eq_true rfl) (by decide +kernel) ?_
        show rf_V 5 (rf_sh w) K 0 0 78 ([(0, .ref 175), (1, .int a1), (2, .long a2)], [.int y0], rf_MM w m0)
        refine rf_seg C [(.istore 4, 2), (.iload 4, 2)] (pc' := 82) (S' := ([(4, .int y0), (0, .ref 175), (1, .int a1), (2, .long a2)], [.int y0], rf_MM w m0)) (by decide +kernel) rfl trivial ?_
        refine rf_if_lt C 18 100 (by decide +kernel) (fun hc => ?_) (fun hc => ?_)
        · replace hg := (if_pos hc).symm.trans hg
          refine rf_seg C [(.iconst 1, 1)] (pc' := 101) (S' := ([(4, .int y0), (0, .ref 175), (1, .int a1), (2, .long a2)], [.int 1], rf_MM w m0)) (by decide +kernel) rfl trivial ?_
          refine rf_goto C 4 105 (by decide +kernel) ?_
          obtain rfl := Option.some.inj hg
          exact rf_zret C hE (by decide) (by decide +kernel)
        · replace hg := (if_neg hc).symm.trans hg
          refine rf_seg C [(.iload 4, 2)] (pc' := 87) (S' := ([(4, .int y0), (0, .ref 175), (1, .int a1), (2, .long a2)], [.int y0], rf_MM w m0)) (by decide +kernel) rfl trivial ?_
          refine rf_if_ne C 17 104 (by decide +kernel) (fun hc => ?_) (fun hc => ?_)
          · replace hg := (if_neg hc).symm.trans hg
            refine rf_seg C [(.iconst 0, 1)] (pc' := 105) (S' := ([(4, .int y0), (0, .ref 175), (1, .int a1), (2, .long a2)], [.int 0], rf_MM w m0)) (by decide +kernel) rfl trivial ?_
            obtain rfl := Option.some.inj hg
            exact rf_zret C hE (by decide) (by decide +kernel)
          · replace hg := (if_pos hc).symm.trans hg
            refine rf_seg C [(.aload 0, 1), (.iconst 6, 2), (.iload 1, 1)] (pc' := 94) (S' := ([(4, .int y0), (0, .ref 175), (1, .int a1), (2, .long a2)], [.int a1, .int 6, .ref 175], rf_MM w m0)) (by decide +kernel) rfl trivial ?_
            obtain ⟨y1, m1, hc1, hg⟩ := rf_b_some hg
            refine rf_callv C rf_fit0 j_X4_compareRows (ci := 4) (As := [.int 6, .int a1]) (rest := []) mw_X4_compareRows (c_X4_compareRows hc1) (by decide) rfl (by decide) lk_4_174 rfl rfl (Nat.le_of_ble_eq_true rfl) (by decide +kernel) ?_
            show rf_V 5 (rf_sh w) K 0 0 97 ([(4, .int y0), (0, .ref 175), (1, .int a1), (2, .long a2)], [.int y1], rf_MM w m1)
            refine rf_if_ge C 7 104 (by decide +kernel) (fun hc => ?_) (fun hc => ?_)
            · replace hg := (if_pos hc).symm.trans hg
              refine rf_seg C [(.iconst 0, 1)] (pc' := 105) (S' := ([(4, .int y0), (0, .ref 175), (1, .int a1), (2, .long a2)], [.int 0], rf_MM w m1)) (by decide +kernel) rfl trivial ?_
              obtain rfl := Option.some.inj hg
              exact rf_zret C hE (by decide) (by decide +kernel)
            · replace hg := (if_neg hc).symm.trans hg
              refine rf_seg C [(.iconst 1, 1)] (pc' := 101) (S' := ([(4, .int y0), (0, .ref 175), (1, .int a1), (2, .long a2)], [.int 1], rf_MM w m1)) (by decide +kernel) rfl trivial ?_
              refine rf_goto C 4 105 (by decide +kernel) ?_
              obtain rfl := Option.some.inj hg
              exact rf_zret C hE (by decide) (by decide +kernel)
      · replace hg := (if_neg hc).symm.trans hg
        refine rf_seg C [(.iload 1, 1), (.aload 0, 1), (.invokeinterface 4 15, 3)] (pc' := 63) (S' := ([(0, .ref 175), (1, .int a1), (2, .long a2)], [.int (m.1 175 15), .int a1], rf_MM w m)) (by decide +kernel) rfl trivial ?_
        refine rf_icmp_ge C 7 70 (by decide +kernel) (fun hc => ?_) (fun hc => ?_)
        · replace hg := (if_pos hc).symm.trans hg
          refine rf_seg C [(.iconst 0, 1)] (pc' := 71) (S' := ([(0, .ref 175), (1, .int a1), (2, .long a2)], [.int 0], rf_MM w m)) (by decide +kernel) rfl trivial ?_
          obtain rfl := Option.some.inj hg
          exact rf_zret C hE (by decide) (by decide +kernel)
        · replace hg := (if_neg hc).symm.trans hg
          refine rf_seg C [(.iconst 1, 1)] (pc' := 67) (S' := ([(0, .ref 175), (1, .int a1), (2, .long a2)], [.int 1], rf_MM w m)) (by decide +kernel) rfl trivial ?_
          refine rf_goto C 4 71 (by decide +kernel) ?_
          obtain rfl := Option.some.inj hg
          exact rf_zret C hE (by decide) (by decide +kernel)
    · replace hg := (if_neg hc).symm.trans hg
      refine rf_few [0, 2] rfl ?_
      exact s_X4_isBetter_22 C hE a2 m hg
-- X4_isHopeless
abbrev j_X4_isHopeless : rf_J := (4, yX4_isHopeless, cX4_isHopeless, 8, (some .boolean))
theorem mw_X4_isHopeless : rf_mv j_X4_isHopeless (rf_R 4) 2 := ⟨⟨rf_mem 78 (by decide +kernel), rf_mem 78 (by decide +kernel), rf_mem 1 (by decide +kernel), rf_mem 78 (by decide +kernel)⟩, by decide +kernel, by decide⟩
def g_X4_isHopeless_16_b (w : rf_w) (rec16 : Int32 → Int64 → Int32 → rf_m → Option (Int32 × rf_m)) (a1 : Int32) (a4 : Int64) (a6 : Int32) (m : rf_m) : Option (Int32 × rf_m) := (if 6 ≤ a6 then rf_vl ((m.2 175 17) - (m.2 175 16)) fun x0 => (if (0 : Int32) < (lg_cmp a4 x0) then some (1, m) else (if (lg_cmp a4 x0) = 0 then (if a1 < (m.1 175 15) then some (0, m) else some (1, m)) else some (0, m))) else rf_vl ((a4 * (m.2 175 12)) / 1000000) fun x1 => rec16 a1 x1 (a6 + 1) m)
def g_X4_isHopeless_16 (w : rf_w) : Nat → Int32 → Int64 → Int32 → rf_m → Option (Int32 × rf_m)
  | 0, _, _, _, _ => none
  | n + 1, a1, a4, a6, m => g_X4_isHopeless_16_b w (g_X4_isHopeless_16 w n) a1 a4 a6 m
def g_X4_isHopeless (w : rf_w) (m : rf_m) (a1 : Int32) (a2 : Int64) : Option (Int32 × rf_m) := (if (m.1 175 15) = ((-1)) then some (0, m) else g_X4_isHopeless_16 w rf_fuel a1 a2 a1 m)
theorem s_X4_isHopeless_16_b {w : rf_w} {K : rf_K} {r : Int32 × rf_m} (C : rf_Ctx 4 cX4_isHopeless 8 1 (rf_sh w) K) (hE : rf_End (some .boolean) K (rf_sh w) 0 0 (some (.int r.1)) (rf_MM w r.2)) {rec16 : Int32 → Int64 → Int32 → rf_m → Option (Int32 × rf_m)} (hr16 : ∀ (a1 : Int32) (a4 : Int64) (a6 : Int32) (m : rf_m), rec16 a1 a4 a6 m = some r → rf_V 8 (rf_sh w) K 0 0 16 ([(0, .ref 175), (1, .int a1), (4, .long a4), (6, .int a6)], [], rf_MM w m)) (a1 : Int32) (a4 : Int64) (a6 : Int32) (m : rf_m) (hg : g_X4_isHopeless_16_b w rec16 a1 a4 a6 m = some r) : rf_V 8 (rf_sh w) K 0 0 16 ([(0, .ref 175), (1, .int a1), (4, .long a4), (6, .int a6)], [], rf_MM w m) := by
  unfold g_X4_isHopeless_16_b at hg
  refine rf_seg C [(.iload 6, 2), (.iconst 6, 2)] (pc' := 20) (S' := ([(0, .ref 175), (1, .int a1), (4, .long a4), (6, .int a6)], [.int 6, .int a6], rf_MM w m)) (by decide +kernel) rfl trivial ?_
  refine rf_icmp_ge C 22 42 (by decide +kernel) (fun hc => ?_) (fun hc => ?_)
  · replace hg := (if_pos hc).symm.trans hg
    refine rf_seg C [(.aload 0, 1), (.invokeinterface 4 17, 3), (.aload 0, 1), (.invokeinterface 4 16, 3), (.lsub, 1)] (pc' := 51) (S' := ([(0, .ref 175), (1, .int a1), (4, .long a4), (6, .int a6)], [.long ((m.2 175 17) - (m.2 175 16))], rf_MM w m)) (by decide +kernel) rfl trivial ?_
    obtain ⟨x0, hx0, hg⟩ := rf_vl_some hg
    refine rf_vl_top hx0 ?_
    refine rf_seg C [(.lstore 6, 2), (.lload 4, 2), (.lload 6, 2), (.lcmp, 1)] (pc' := 58) (S' := ([(6, .long x0), (0, .ref 175), (1, .int a1), (4, .long a4)], [.int (lg_cmp a4 x0)], rf_MM w m)) (by decide +kernel) rfl trivial ?_
    refine rf_if_gt C 19 77 (by decide +kernel) (fun hc => ?_) (fun hc => ?_)
    · replace hg := (if_pos hc).symm.trans hg
      refine rf_seg C [(.iconst 1, 1)] (pc' := 78) (S' := ([(6, .long x0), (0, .ref 175), (1, .int a1), (4, .long a4)], [.int 1], rf_MM w m)) (by decide +kernel) rfl trivial ?_
      refine rf_goto C 4 82 (by decide +kernel) ?_
      obtain rfl := Option.some.inj hg
      exact rf_zret C hE (by decide) (by decide +kernel)
    · replace hg := (if_neg hc).symm.trans hg
      refine rf_seg C [(.lload 4, 2), (.lload 6, 2), (.lcmp, 1)] (pc' := 66) (S' := ([(6, .long x0), (0, .ref 175), (1, .int a1), (4, .long a4)], [.int (lg_cmp a4 x0)], rf_MM w m)) (by decide +kernel) rfl trivial ?_
      refine rf_if_ne C 15 81 (by decide +kernel) (fun hc => ?_) (fun hc => ?_)
      · replace hg := (if_neg hc).symm.trans hg
        refine rf_seg C [(.iconst 0, 1)] (pc' := 82) (S' := ([(6, .long x0), (0, .ref 175), (1, .int a1), (4, .long a4)], [.int 0], rf_MM w m)) (by decide +kernel) rfl trivial ?_
        obtain rfl := Option.some.inj hg
        exact rf_zret C hE (by decide) (by decide +kernel)
      · replace hg := (if_pos hc).symm.trans hg
        refine rf_seg C [(.iload 1, 1), (.aload 0, 1), (.invokeinterface 4 15, 3)] (pc' := 74) (S' := ([(6, .long x0), (0, .ref 175), (1, .int a1), (4, .long a4)], [.int (m.1 175 15), .int a1], rf_MM w m)) (by decide +kernel) rfl trivial ?_
        refine rf_icmp_lt C 7 81 (by decide +kernel) (fun hc => ?_) (fun hc => ?_)
        · replace hg := (if_pos hc).symm.trans hg
          refine rf_seg C [(.iconst 0, 1)] (pc' := 82) (S' := ([(6, .long x0), (0, .ref 175), (1, .int a1), (4, .long a4)], [.int 0], rf_MM w m)) (by decide +kernel) rfl trivial ?_
          obtain rfl := Option.some.inj hg
          exact rf_zret C hE (by decide) (by decide +kernel)
        · replace hg := (if_neg hc).symm.trans hg
          refine rf_seg C [(.iconst 1, 1)] (pc' := 78) (S' := ([(6, .long x0), (0, .ref 175), (1, .int a1), (4, .long a4)], [.int 1], rf_MM w m)) (by decide +kernel) rfl trivial ?_
          refine rf_goto C 4 82 (by decide +kernel) ?_
          obtain rfl := Option.some.inj hg
          exact rf_zret C hE (by decide) (by decide +kernel)
  · replace hg := (if_neg hc).symm.trans hg
    refine rf_seg C [(.lload 4, 2), (.aload 0, 1), (.invokeinterface 4 12, 3), (.lmul, 1), (.goto_w 1000000, 3), (.ldiv, 1)] (pc' := 34) (S' := ([(0, .ref 175), (1, .int a1), (4, .long a4), (6, .int a6)], [.long ((a4 * (m.2 175 12)) / 1000000)], rf_MM w m)) (by decide +kernel) rfl (rf_nzl_of (by decide)) ?_
    obtain ⟨x1, hx1, hg⟩ := rf_vl_some hg
    refine rf_vl_top hx1 ?_
    refine rf_seg C [(.lstore 4, 2), (.iinc 6 1, 3)] (pc' := 39) (S' := ([(6, .int (a6 + 1)), (4, .long x1), (0, .ref 175), (1, .int a1)], [], rf_MM w m)) (by decide +kernel) rfl trivial ?_
    refine rf_goto C (-23) 16 (by decide +kernel) ?_
    refine rf_few [2, 3, 1, 0] rfl ?_
    exact hr16 a1 x1 (a6 + 1) m hg
theorem s_X4_isHopeless_16 {w : rf_w} {K : rf_K} {r : Int32 × rf_m} (C : rf_Ctx 4 cX4_isHopeless 8 1 (rf_sh w) K) (hE : rf_End (some .boolean) K (rf_sh w) 0 0 (some (.int r.1)) (rf_MM w r.2)) (n : Nat) : ∀ (a1 : Int32) (a4 : Int64) (a6 : Int32) (m : rf_m), g_X4_isHopeless_16 w n a1 a4 a6 m = some r → rf_V 8 (rf_sh w) K 0 0 16 ([(0, .ref 175), (1, .int a1), (4, .long a4), (6, .int a6)], [], rf_MM w m) := by
  induction n with
  | zero => intro a1 a4 a6 m hg; cases hg
  | succ n ih => intro a1 a4 a6 m hg; exact s_X4_isHopeless_16_b C hE ih a1 a4 a6 m hg
theorem c_X4_isHopeless {w : rf_w} {m : rf_m} {a1 : Int32} {a2 : Int64} {r : Int32 × rf_m} (hg : g_X4_isHopeless w m a1 a2 = some r) : rf_Con j_X4_isHopeless 1 (rf_sh w) [.ref 175, .int a1, .long a2] (rf_MM w m) (some (.int r.1)) (rf_MM w r.2) := by
  refine rf_con j_X4_isHopeless 1 ⟨by decide +kernel, rfl, Nat.le_of_ble_eq_true rfl⟩ (fun K C hE => ?_)
  unfold g_X4_isHopeless at hg
  show rf_V 8 (rf_sh w) K 0 0 0 ([(0, .ref 175), (1, .int a1), (2, .long a2)], [], rf_MM w m)
  refine rf_seg C [(.aload 0, 1), (.invokeinterface 4 15, 3), (.iconst (-1), 1)] (pc' := 5) (S' := ([(0, .ref 175), (1, .int a1), (2, .long a2)], [.int ((-1)), .int (m.1 175 15)], rf_MM w m)) (by decide +kernel) rfl trivial ?_
  refine rf_icmp_ne C 5 10 (by decide +kernel) (fun hc => ?_) (fun hc => ?_)
  · replace hg := (if_neg hc).symm.trans hg
    refine rf_seg C [(.lload 2, 1), (.lstore 4, 2), (.iload 1, 1), (.istore 6, 2)] (pc' := 16) (S' := ([(6, .int a1), (4, .long a2), (0, .ref 175), (1, .int a1), (2, .long a2)], [], rf_MM w m)) (by decide +kernel) rfl trivial ?_
    refine rf_few [2, 3, 1, 0] rfl ?_
    exact s_X4_isHopeless_16 C hE rf_fuel a1 a2 a1 m hg
  · replace hg := (if_pos hc).symm.trans hg
    refine rf_seg C [(.iconst 0, 1)] (pc' := 9) (S' := ([(0, .ref 175), (1, .int a1), (2, .long a2)], [.int 0], rf_MM w m)) (by decide +kernel) rfl trivial ?_
    obtain rfl := Option.some.inj hg
    exact rf_zret C hE (by decide) (by decide +kernel)
-- X4_isReached
abbrev j_X4_isReached : rf_J := (4, yX4_isReached, cX4_isReached, 4, (some .boolean))
theorem mw_X4_isReached : rf_mv j_X4_isReached (rf_R 4) 2 := ⟨⟨rf_mem 83 (by decide +kernel), rf_mem 83 (by decide +kernel), rf_mem 1 (by decide +kernel), rf_mem 83 (by decide +kernel)⟩, by decide +kernel, by decide⟩
def g_X4_isReached_2_b (w : rf_w) (rec2 : Int32 → Int32 → Int32 → rf_m → Option (Int32 × rf_m)) (a1 : Int32) (a2 : Int32) (a3 : Int32) (m : rf_m) : Option (Int32 × rf_m) := (if a2 ≤ a3 then some (0, m) else rf_g (rf_in a3 3) ((if (m.1 183 (Int32.toNatClampNeg a3)) = a1 then some (1, m) else rec2 a1 a2 (a3 + 1) m)))
def g_X4_isReached_2 (w : rf_w) : Nat → Int32 → Int32 → Int32 → rf_m → Option (Int32 × rf_m)
  | 0, _, _, _, _ => none
  | n + 1, a1, a2, a3, m => g_X4_isReached_2_b w (g_X4_isReached_2 w n) a1 a2 a3 m
def g_X4_isReached (w : rf_w) (m : rf_m) (a1 : Int32) (a2 : Int32) : Option (Int32 × rf_m) := g_X4_isReached_2 w rf_fuel a1 a2 0 m
theorem s_X4_isReached_2_b {w : rf_w} {K : rf_K} {r : Int32 × rf_m} (C : rf_Ctx 4 cX4_isReached 4 1 (rf_sh w) K) (hE : rf_End (some .boolean) K (rf_sh w) 0 0 (some (.int r.1)) (rf_MM w r.2)) {rec2 : Int32 → Int32 → Int32 → rf_m → Option (Int32 × rf_m)} (hr2 : ∀ (a1 : Int32) (a2 : Int32) (a3 : Int32) (m : rf_m), rec2 a1 a2 a3 m = some r → rf_V 4 (rf_sh w) K 0 0 2 ([(0, .ref 175), (1, .int a1), (2, .int a2), (3, .int a3)], [], rf_MM w m)) (a1 : Int32) (a2 : Int32) (a3 : Int32) (m : rf_m) (hg : g_X4_isReached_2_b w rec2 a1 a2 a3 m = some r) : rf_V 4 (rf_sh w) K 0 0 2 ([(0, .ref 175), (1, .int a1), (2, .int a2), (3, .int a3)], [], rf_MM w m) := by
  unfold g_X4_isReached_2_b at hg
  refine rf_seg C [(.iload 3, 1), (.iload 2, 1)] (pc' := 4) (S' := ([(0, .ref 175), (1, .int a1), (2, .int a2), (3, .int a3)], [.int a2, .int a3], rf_MM w m)) (by decide +kernel) rfl trivial ?_
  refine rf_icmp_ge C 21 25 (by decide +kernel) (fun hc => ?_) (fun hc => ?_)
  · replace hg := (if_pos hc).symm.trans hg
    refine rf_seg C [(.iconst 0, 1)] (pc' := 26) (S' := ([(0, .ref 175), (1, .int a1), (2, .int a2), (3, .int a3)], [.int 0], rf_MM w m)) (by decide +kernel) rfl trivial ?_
    obtain rfl := Option.some.inj hg
    exact rf_zret C hE (by decide) (by decide +kernel)
  · replace hg := (if_neg hc).symm.trans hg
    obtain ⟨q0, hg⟩ := rf_g_some hg
    refine rf_seg C [(.aload 0, 1), (.invokeinterface 4 19, 3), (.iload 3, 1), (.iaload, 1), (.iload 1, 1)] (pc' := 14) (S' := ([(0, .ref 175), (1, .int a1), (2, .int a2), (3, .int a3)], [.int a1, .int (m.1 183 (Int32.toNatClampNeg a3))], rf_MM w m)) (by decide +kernel) rfl (rf_in_of q0) ?_
    refine rf_icmp_ne C 5 19 (by decide +kernel) (fun hc => ?_) (fun hc => ?_)
    · replace hg := (if_neg hc).symm.trans hg
      refine rf_seg C [(.iinc 3 1, 3)] (pc' := 22) (S' := ([(3, .int (a3 + 1)), (0, .ref 175), (1, .int a1), (2, .int a2)], [], rf_MM w m)) (by decide +kernel) rfl trivial ?_
      refine rf_goto C (-20) 2 (by decide +kernel) ?_
      refine rf_few [1, 2, 3, 0] rfl ?_
      exact hr2 a1 a2 (a3 + 1) m hg
    · replace hg := (if_pos hc).symm.trans hg
      refine rf_seg C [(.iconst 1, 1)] (pc' := 18) (S' := ([(0, .ref 175), (1, .int a1), (2, .int a2), (3, .int a3)], [.int 1], rf_MM w m)) (by decide +kernel) rfl trivial ?_
      obtain rfl := Option.some.inj hg
      exact rf_zret C hE (by decide) (by decide +kernel)
theorem s_X4_isReached_2 {w : rf_w} {K : rf_K} {r : Int32 × rf_m} (C : rf_Ctx 4 cX4_isReached 4 1 (rf_sh w) K) (hE : rf_End (some .boolean) K (rf_sh w) 0 0 (some (.int r.1)) (rf_MM w r.2)) (n : Nat) : ∀ (a1 : Int32) (a2 : Int32) (a3 : Int32) (m : rf_m), g_X4_isReached_2 w n a1 a2 a3 m = some r → rf_V 4 (rf_sh w) K 0 0 2 ([(0, .ref 175), (1, .int a1), (2, .int a2), (3, .int a3)], [], rf_MM w m) := by
  induction n with
  | zero => intro a1 a2 a3 m hg; cases hg
  | succ n ih => intro a1 a2 a3 m hg; exact s_X4_isReached_2_b C hE ih a1 a2 a3 m hg
theorem c_X4_isReached {w : rf_w} {m : rf_m} {a1 : Int32} {a2 : Int32} {r : Int32 × rf_m} (hg : g_X4_isReached w m a1 a2 = some r) : rf_Con j_X4_isReached 1 (rf_sh w) [.ref 175, .int a1, .int a2] (rf_MM w m) (some (.int r.1)) (rf_MM w r.2) := by
  refine rf_con j_X4_isReached 1 ⟨by decide +kernel, rfl, Nat.le_of_ble_eq_true rfl⟩ (fun K C hE => ?_)
  unfold g_X4_isReached at hg
  show rf_V 4 (rf_sh w) K 0 0 0 ([(0, .ref 175), (1, .int a1), (2, .int a2)], [], rf_MM w m)
  refine rf_seg C [(.iconst 0, 1), (.istore 3, 1)] (pc' := 2) (S' := ([(3, .int 0), (0, .ref 175), (1, .int a1), (2, .int a2)], [], rf_MM w m)) (by decide +kernel) rfl trivial ?_
  refine rf_few [1, 2, 3, 0] rfl ?_
  exact s_X4_isReached_2 C hE rf_fuel a1 a2 0 m hg
-- X4_goOver
abbrev j_X4_goOver : rf_J := (4, yX4_goOver, cX4_goOver, 7, (some .int))
theorem mw_X4_goOver : rf_mv j_X4_goOver (rf_R 4) 2 := ⟨⟨rf_mem 82 (by decide +kernel), rf_mem 83 (by decide +kernel), rf_mem 1 (by decide +kernel), rf_mem 83 (by decide +kernel)⟩, by decide +kernel, by decide⟩
def g_X4_goOver_95 (w : rf_w) (rec57 : Int32 → Int32 → Int32 → Int32 → Int32 → rf_m → Option (Int32 × rf_m)) (a1 : Int32) (a3 : Int32) (a4 : Int32) (a5 : Int32) (a6 : Int32) (m : rf_m) : Option (Int32 × rf_m) := rec57 a1 a3 a4 a5 (a6 + 1) m
def g_X4_goOver_75 (w : rf_w) (rec57 : Int32 → Int32 → Int32 → Int32 → Int32 → rf_m → Option (Int32 × rf_m)) (a1 : Int32) (a3 : Int32) (a4 : Int32) (a5 : Int32) (a6 : Int32) (m : rf_m) : Option (Int32 × rf_m) := rf_b (g_X7_opposite w m a1 a6) fun y0 m0 => rf_g (rf_in a5 3) (g_X4_goOver_95 w rec57 a1 a3 a4 (a5 + 1) a6 (rf_i m0 183 (Int32.toNatClampNeg a5) y0))
def g_X4_goOver_57_b (w : rf_w) (rec57 : Int32 → Int32 → Int32 → Int32 → Int32 → rf_m → Option (Int32 × rf_m)) (a1 : Int32) (a3 : Int32) (a4 : Int32) (a5 : Int32) (a6 : Int32) (m : rf_m) : Option (Int32 × rf_m) := (if 3 ≤ a6 then some (a5, m) else (if 1 < a3 then g_X4_goOver_75 w rec57 a1 a3 a4 a5 a6 m else (if a6 = a4 then g_X4_goOver_95 w rec57 a1 a3 a4 a5 a6 m else g_X4_goOver_75 w rec57 a1 a3 a4 a5 a6 m)))
def g_X4_goOver_57 (w : rf_w) : Nat → Int32 → Int32 → Int32 → Int32 → Int32 → rf_m → Option (Int32 × rf_m)
  | 0, _, _, _, _, _, _ => none
  | n + 1, a1, a3, a4, a5, a6, m => g_X4_goOver_57_b w (g_X4_goOver_57 w n) a1 a3 a4 a5 a6 m
def g_X4_goOver_39 (w : rf_w) (rec8 : Int32 → Int32 → Int32 → Int32 → Int32 → rf_m → Option (Int32 × rf_m)) (a1 : Int32) (a2 : Int32) (a3 : Int32) (a4 : Int32) (a5 : Int32) (m : rf_m) : Option (Int32 × rf_m) := rec8 a1 a2 a3 a4 (a5 + 1) m
def g_X4_goOver_8_b (w : rf_w) (rec8 : Int32 → Int32 → Int32 → Int32 → Int32 → rf_m → Option (Int32 × rf_m)) (a1 : Int32) (a2 : Int32) (a3 : Int32) (a4 : Int32) (a5 : Int32) (m : rf_m) : Option (Int32 × rf_m) := (if 3 ≤ a5 then (if a3 = 0 then some (0, m) else g_X4_goOver_57 w rf_fuel a1 a3 a4 0 0 m) else rf_b (g_X7_opposite w m a1 a5) fun y0 m0 => rf_b (g_X4_isReached w m0 y0 a2) fun y1 m1 => (if y1 = 0 then g_X4_goOver_39 w rec8 a1 a2 a3 a4 a5 m1 else g_X4_goOver_39 w rec8 a1 a2 (a3 + 1) a5 a5 m1))
def g_X4_goOver_8 (w : rf_w) : Nat → Int32 → Int32 → Int32 → Int32 → Int32 → rf_m → Option (Int32 × rf_m)
  | 0, _, _, _, _, _, _ => none
  | n + 1, a1, a2, a3, a4, a5, m => g_X4_goOver_8_b w (g_X4_goOver_8 w n) a1 a2 a3 a4 a5 m
def g_X4_goOver (w : rf_w) (m : rf_m) (a1 : Int32) (a2 : Int32) : Option (Int32 × rf_m) := g_X4_goOver_8 w rf_fuel a1 a2 0 ((-1)) 0 m
theorem s_X4_goOver_95 {w : rf_w} {K : rf_K} {r : Int32 × rf_m} (C : rf_Ctx 4 cX4_goOver 7 4 (rf_sh w) K) (hE : rf_End (some .int) K (rf_sh w) 0 0 (some (.int r.1)) (rf_MM w r.2)) {rec57 : Int32 → Int32 → Int32 → Int32 → Int32 → rf_m → Option (Int32 × rf_m)} (hr57 : ∀ (a1 : Int32) (a3 : Int32) (a4 : Int32) (a5 : Int32) (a6 : Int32) (m : rf_m), rec57 a1 a3 a4 a5 a6 m = some r → rf_V 7 (rf_sh w) K 0 0 57 ([(0, .ref 175), (1, .int a1), (3, .int a3), (4, .int a4), (5, .int a5), (6, .int a6)], [], rf_MM w m)) (a1 : Int32) (a3 : Int32) (a4 : Int32) (a5 : Int32) (a6 : Int32) (m : rf_m) (hg : g_X4_goOver_95 w rec57 a1 a3 a4 a5 a6 m = some r) : rf_V 7 (rf_sh w) K 0 0 95 ([(0, .ref 175), (1, .int a1), (3, .int a3), (4, .int a4), (5, .int a5), (6, .int a6)], [], rf_MM w m) := by
  unfold g_X4_goOver_95 at hg
  refine rf_seg C [(.iinc 6 1, 3)] (pc' := 98) (S' := ([(6, .int (a6 + 1)), (0, .ref 175), (1, .int a1), (3, .int a3), (4, .int a4), (5, .int a5)], [], rf_MM w m)) (by decide +kernel) rfl trivial ?_
  refine rf_goto C (-41) 57 (by decide +kernel) ?_
  refine rf_few [1, 2, 3, 4, 5, 0] rfl ?_
  exact hr57 a1 a3 a4 a5 (a6 + 1) m hg
theorem s_X4_goOver_75 {w : rf_w} {K : rf_K} {r : Int32 × rf_m} (C : rf_Ctx 4 cX4_goOver 7 4 (rf_sh w) K) (hE : rf_End (some .int) K (rf_sh w) 0 0 (some (.int r.1)) (rf_MM w r.2)) {rec57 : Int32 → Int32 → Int32 → Int32 → Int32 → rf_m → Option (Int32 × rf_m)} (hr57 : ∀ (a1 : Int32) (a3 : Int32) (a4 : Int32) (a5 : Int32) (a6 : Int32) (m : rf_m), rec57 a1 a3 a4 a5 a6 m = some r → rf_V 7 (rf_sh w) K 0 0 57 ([(0, .ref 175), (1, .int a1), (3, .int a3), (4, .int a4), (5, .int a5), (6, .int a6)], [], rf_MM w m)) (a1 : Int32) (a3 : Int32) (a4 : Int32) (a5 : Int32) (a6 : Int32) (m : rf_m) (hg : g_X4_goOver_75 w rec57 a1 a3 a4 a5 a6 m = some r) : rf_V 7 (rf_sh w) K 0 0 75 ([(0, .ref 175), (1, .int a1), (3, .int a3), (4, .int a4), (5, .int a5), (6, .int a6)], [], rf_MM w m) := by
  unfold g_X4_goOver_75 at hg
  refine rf_seg C [(.aload 0, 1), (.invokeinterface 4 19, 3), (.iload 5, 2), (.aload 0, 1), (.invokeinterface 4 5, 3), (.iload 1, 1), (.iload 6, 2)] (pc' := 88) (S' := ([(0, .ref 175), (1, .int a1), (3, .int a3), (4, .int a4), (5, .int a5), (6, .int a6)], [.int a6, .int a1, .ref 50, .int a5, .ref 183], rf_MM w m)) (by decide +kernel) rfl trivial ?_
  obtain ⟨y0, m0, hc0, hg⟩ := rf_b_some hg
  refine rf_callv C rf_fit0 j_X7_opposite (ci := 7) (As := [.int a1, .int a6]) (rest := [.int a5, .ref 183]) mw_X7_opposite (c_X7_opposite hc0) (by decide) rfl (by decide) lk_4_139 rfl rfl (Nat.le_of_ble_eq_true rfl) (by decide +kernel) ?_
  show rf_V 7 (rf_sh w) K 0 0 91 ([(0, .ref 175), (1, .int a1), (3, .int a3), (4, .int a4), (5, .int a5), (6, .int a6)], [.int y0, .int a5, .ref 183], rf_MM w m0)
  obtain ⟨q1, hg⟩ := rf_g_some hg
  refine rf_seg C [(.iastore, 1), (.iinc 5 1, 3)] (pc' := 95) (S' := ([(5, .int (a5 + 1)), (0, .ref 175), (1, .int a1), (3, .int a3), (4, .int a4), (6, .int a6)], [], rf_MM w (rf_i m0 183 (Int32.toNatClampNeg a5) y0))) (by decide +kernel) rfl (rf_in_of q1) ?_
  refine rf_few [1, 2, 3, 4, 0, 5] rfl ?_
  exact s_X4_goOver_95 C hE hr57 a1 a3 a4 (a5 + 1) a6 (rf_i m0 183 (Int32.toNatClampNeg a5) y0) hg
theorem s_X4_goOver_57_b {w : rf_w} {K : rf_K} {r : Int32 × rf_m} (C : rf_Ctx 4 cX4_goOver 7 4 (rf_sh w) K) (hE : rf_End (some .int) K (rf_sh w) 0 0 (some (.int r.1)) (rf_MM w r.2)) {rec57 : Int32 → Int32 → Int32 → Int32 → Int32 → rf_m → Option (Int32 × rf_m)} (hr57 : ∀ (a1 : Int32) (a3 : Int32) (a4 : Int32) (a5 : Int32) (a6 : Int32) (m : rf_m), rec57 a1 a3 a4 a5 a6 m = some r → rf_V 7 (rf_sh w) K 0 0 57 ([(0, .ref 175), (1, .int a1), (3, .int a3), (4, .int a4), (5, .int a5), (6, .int a6)], [], rf_MM w m)) (a1 : Int32) (a3 : Int32) (a4 : Int32) (a5 : Int32) (a6 : Int32) (m : rf_m) (hg : g_X4_goOver_57_b w rec57 a1 a3 a4 a5 a6 m = some r) : rf_V 7 (rf_sh w) K 0 0 57 ([(0, .ref 175), (1, .int a1), (3, .int a3), (4, .int a4), (5, .int a5), (6, .int a6)], [], rf_MM w m) := by
  unfold g_X4_goOver_57_b at hg
  refine rf_seg C [(.iload 6, 2), (.iconst 3, 1)] (pc' := 60) (S' := ([(0, .ref 175), (1, .int a1), (3, .int a3), (4, .int a4), (5, .int a5), (6, .int a6)], [.int 3, .int a6], rf_MM w m)) (by decide +kernel) rfl trivial ?_
  refine rf_icmp_ge C 41 101 (by decide +kernel) (fun hc => ?_) (fun hc => ?_)
  · replace hg := (if_pos hc).symm.trans hg
    refine rf_seg C [(.iload 5, 2)] (pc' := 103) (S' := ([(0, .ref 175), (1, .int a1), (3, .int a3), (4, .int a4), (5, .int a5), (6, .int a6)], [.int a5], rf_MM w m)) (by decide +kernel) rfl trivial ?_
    obtain rfl := Option.some.inj hg
    exact rf_iret C hE (by decide +kernel)
  · replace hg := (if_neg hc).symm.trans hg
    refine rf_seg C [(.iload 3, 1), (.iconst 1, 1)] (pc' := 65) (S' := ([(0, .ref 175), (1, .int a1), (3, .int a3), (4, .int a4), (5, .int a5), (6, .int a6)], [.int 1, .int a3], rf_MM w m)) (by decide +kernel) rfl trivial ?_
    refine rf_icmp_gt C 10 75 (by decide +kernel) (fun hc => ?_) (fun hc => ?_)
    · replace hg := (if_pos hc).symm.trans hg
      refine rf_few [0, 1, 2, 3, 4, 5] rfl ?_
      exact s_X4_goOver_75 C hE hr57 a1 a3 a4 a5 a6 m hg
    · replace hg := (if_neg hc).symm.trans hg
      refine rf_seg C [(.iload 6, 2), (.iload 4, 2)] (pc' := 72) (S' := ([(0, .ref 175), (1, .int a1), (3, .int a3), (4, .int a4), (5, .int a5), (6, .int a6)], [.int a4, .int a6], rf_MM w m)) (by decide +kernel) rfl trivial ?_
      refine rf_icmp_eq C 23 95 (by decide +kernel) (fun hc => ?_) (fun hc => ?_)
      · replace hg := (if_pos hc).symm.trans hg
        refine rf_few [0, 1, 2, 3, 4, 5] rfl ?_
        exact s_X4_goOver_95 C hE hr57 a1 a3 a4 a5 a6 m hg
      · replace hg := (if_neg hc).symm.trans hg
        refine rf_few [0, 1, 2, 3, 4, 5] rfl ?_
        exact s_X4_goOver_75 C hE hr57 a1 a3 a4 a5 a6 m hg
theorem s_X4_goOver_57 {w : rf_w} {K : rf_K} {r : Int32 × rf_m} (C : rf_Ctx 4 cX4_goOver 7 4 (rf_sh w) K) (hE : rf_End (some .int) K (rf_sh w) 0 0 (some (.int r.1)) (rf_MM w r.2)) (n : Nat) : ∀ (a1 : Int32) (a3 : Int32) (a4 : Int32) (a5 : Int32) (a6 : Int32) (m : rf_m), g_X4_goOver_57 w n a1 a3 a4 a5 a6 m = some r → rf_V 7 (rf_sh w) K 0 0 57 ([(0, .ref 175), (1, .int a1), (3, .int a3), (4, .int a4), (5, .int a5), (6, .int a6)], [], rf_MM w m) := by
  induction n with
  | zero => intro a1 a3 a4 a5 a6 m hg; cases hg
  | succ n ih => intro a1 a3 a4 a5 a6 m hg; exact s_X4_goOver_57_b C hE ih a1 a3 a4 a5 a6 m hg
theorem s_X4_goOver_39 {w : rf_w} {K : rf_K} {r : Int32 × rf_m} (C : rf_Ctx 4 cX4_goOver 7 4 (rf_sh w) K) (hE : rf_End (some .int) K (rf_sh w) 0 0 (some (.int r.1)) (rf_MM w r.2)) {rec8 : Int32 → Int32 → Int32 → Int32 → Int32 → rf_m → Option (Int32 × rf_m)} (hr8 : ∀ (a1 : Int32) (a2 : Int32) (a3 : Int32) (a4 : Int32) (a5 : Int32) (m : rf_m), rec8 a1 a2 a3 a4 a5 m = some r → rf_V 7 (rf_sh w) K 0 0 8 ([(0, .ref 175), (1, .int a1), (2, .int a2), (3, .int a3), (4, .int a4), (5, .int a5)], [], rf_MM w m)) (a1 : Int32) (a2 : Int32) (a3 : Int32) (a4 : Int32) (a5 : Int32) (m : rf_m) (hg : g_X4_goOver_39 w rec8 a1 a2 a3 a4 a5 m = some r) : rf_V 7 (rf_sh w) K 0 0 39 ([(0, .ref 175), (1, .int a1), (2, .int a2), (3, .int a3), (4, .int a4), (5, .int a5)], [], rf_MM w m) := by
  unfold g_X4_goOver_39 at hg
  refine rf_seg C [(.iinc 5 1, 3)] (pc' := 42) (S' := ([(5, .int (a5 + 1)), (0, .ref 175), (1, .int a1), (2, .int a2), (3, .int a3), (4, .int a4)], [], rf_MM w m)) (by decide +kernel) rfl trivial ?_
  refine rf_goto C (-34) 8 (by decide +kernel) ?_
  refine rf_few [1, 2, 3, 4, 5, 0] rfl ?_
  exact hr8 a1 a2 a3 a4 (a5 + 1) m hg
theorem s_X4_goOver_8_b {w : rf_w} {K : rf_K} {r : Int32 × rf_m} (C : rf_Ctx 4 cX4_goOver 7 4 (rf_sh w) K) (hE : rf_End (some .int) K (rf_sh w) 0 0 (some (.int r.1)) (rf_MM w r.2)) {rec8 : Int32 → Int32 → Int32 → Int32 → Int32 → rf_m → Option (Int32 × rf_m)} (hr8 : ∀ (a1 : Int32) (a2 : Int32) (a3 : Int32) (a4 : Int32) (a5 : Int32) (m : rf_m), rec8 a1 a2 a3 a4 a5 m = some r → rf_V 7 (rf_sh w) K 0 0 8 ([(0, .ref 175), (1, .int a1), (2, .int a2), (3, .int a3), (4, .int a4), (5, .int a5)], [], rf_MM w m)) (a1 : Int32) (a2 : Int32) (a3 : Int32) (a4 : Int32) (a5 : Int32) (m : rf_m) (hg : g_X4_goOver_8_b w rec8 a1 a2 a3 a4 a5 m = some r) : rf_V 7 (rf_sh w) K 0 0 8 ([(0, .ref 175), (1, .int a1), (2, .int a2), (3, .int a3), (4, .int a4), (5, .int a5)], [], rf_MM w m) := by
  unfold g_X4_goOver_8_b at hg
  refine rf_seg C [(.iload 5, 2), (.iconst 3, 1)] (pc' := 11) (S' := ([(0, .ref 175), (1, .int a1), (2, .int a2), (3, .int a3), (4, .int a4), (5, .int a5)], [.int 3, .int a5], rf_MM w m)) (by decide +kernel) rfl trivial ?_
  refine rf_icmp_ge C 34 45 (by decide +kernel) (fun hc => ?_) (fun hc => ?_)
  · replace hg := (if_pos hc).symm.trans hg
    refine rf_seg C [(.iload 3, 1)] (pc' := 46) (S' := ([(0, .ref 175), (1, .int a1), (2, .int a2), (3, .int a3), (4, .int a4), (5, .int a5)], [.int a3], rf_MM w m)) (by decide +kernel) rfl trivial ?_
    refine rf_if_ne C 5 51 (by decide +kernel) (fun hc => ?_) (fun hc => ?_)
    · replace hg := (if_neg hc).symm.trans hg
      refine rf_seg C [(.iconst 0, 1), (.istore 5, 2), (.iconst 0, 1), (.istore 6, 2)] (pc' := 57) (S' := ([(6, .int 0), (5, .int 0), (0, .ref 175), (1, .int a1), (2, .int a2), (3, .int a3), (4, .int a4)], [], rf_MM w m)) (by decide +kernel) rfl trivial ?_
      refine rf_few [2, 3, 5, 6, 1, 0] rfl ?_
      exact s_X4_goOver_57 C hE rf_fuel a1 a3 a4 0 0 m hg
    · replace hg := (if_pos hc).symm.trans hg
      refine rf_seg C [(.iconst 0, 1)] (pc' := 50) (S' := ([(0, .ref 175), (1, .int a1), (2, .int a2), (3, .int a3), (4, .int a4), (5, .int a5)], [.int 0], rf_MM w m)) (by decide +kernel) rfl trivial ?_
      obtain rfl := Option.some.inj hg
      exact rf_iret C hE (by decide +kernel)
  · replace hg := (if_neg hc).symm.trans hg
    refine rf_seg C [(.aload 0, 1), (.aload 0, 1), (.invokeinterface 4 5, 3), (.iload 1, 1), (.iload 5, 2)] (pc' := 22) (S' := ([(0, .ref 175), (1, .int a1), (2, .int a2), (3, .int a3), (4, .int a4), (5, .int a5)], [.int a5, .int a1, .ref 50, .ref 175], rf_MM w m)) (by decide +kernel) rfl trivial ?_
    obtain ⟨y0, m0, hc0, hg⟩ := rf_b_some hg
    refine rf_callv C rf_fit0 j_X7_opposite (ci := 7) (As := [.int a1, .int a5]) (rest := [.ref 175]) mw_X7_opposite (c_X7_opposite hc0) (by decide) rfl (by decide) lk_4_139 rfl rfl (Nat.le_of_ble_eq_true rfl) (by decide +kernel) ?_
    show rf_V 7 (rf_sh w) K 0 0 25 ([(0, .ref 175), (1, .int a1), (2, .int a2), (3, .int a3), (4, .int a4), (5, .int a5)], [.int y0, .ref 175], rf_MM w m0)
    refine rf_seg C [(.iload 2, 1)] (pc' := 26) (S' := ([(0, .ref 175), (1, .int a1), (2, .int a2), (3, .int a3), (4, .int a4), (5, .int a5)], [.int a2, .int y0, .ref 175], rf_MM w m0)) (by decide +kernel) rfl trivial ?_
    obtain ⟨y1, m1, hc1, hg⟩ := rf_b_some hg
    refine rf_callv C rf_fit0 j_X4_isReached (ci := 4) (As := [.int y0, .int a2]) (rest := []) mw_X4_isReached (c_X4_isReached hc1) (by decide) rfl (by decide) lk_4_194 rfl rfl (Nat.le_of_ble_eq_true rfl) (by decide +kernel) ?_
    show rf_V 7 (rf_sh w) K 0 0 29 ([(0, .ref 175), (1, .int a1), (2, .int a2), (3, .int a3), (4, .int a4), (5, .int a5)], [.int y1], rf_MM w m1)
    refine rf_if_eq C 10 39 (by decide +kernel) (fun hc => ?_) (fun hc => ?_)
    · replace hg := (if_pos hc).symm.trans hg
      refine rf_few [0, 1, 2, 3, 4, 5] rfl ?_
      exact s_X4_goOver_39 C hE hr8 a1 a2 a3 a4 a5 m1 hg
    · replace hg := (if_neg hc).symm.trans hg
      refine rf_seg C [(.iinc 3 1, 3), (.iload 5, 2), (.istore 4, 2)] (pc' := 39) (S' := ([(4, .int a5), (3, .int (a3 + 1)), (0, .ref 175), (1, .int a1), (2, .int a2), (5, .int a5)], [], rf_MM w m1)) (by decide +kernel) rfl trivial ?_
      refine rf_few [2, 3, 4, 1, 0, 5] rfl ?_
      exact s_X4_goOver_39 C hE hr8 a1 a2 (a3 + 1) a5 a5 m1 hg
theorem s_X4_goOver_8 {w : rf_w} {K : rf_K} {r : Int32 × rf_m} (C : rf_Ctx 4 cX4_goOver 7 4 (rf_sh w) K) (hE : rf_End (some .int) K (rf_sh w) 0 0 (some (.int r.1)) (rf_MM w r.2)) (n : Nat) : ∀ (a1 : Int32) (a2 : Int32) (a3 : Int32) (a4 : Int32) (a5 : Int32) (m : rf_m), g_X4_goOver_8 w n a1 a2 a3 a4 a5 m = some r → rf_V 7 (rf_sh w) K 0 0 8 ([(0, .ref 175), (1, .int a1), (2, .int a2), (3, .int a3), (4, .int a4), (5, .int a5)], [], rf_MM w m) := by
  induction n with
  | zero => intro a1 a2 a3 a4 a5 m hg; cases hg
  | succ n ih => intro a1 a2 a3 a4 a5 m hg; exact s_X4_goOver_8_b C hE ih a1 a2 a3 a4 a5 m hg
theorem c_X4_goOver {w : rf_w} {m : rf_m} {a1 : Int32} {a2 : Int32} {r : Int32 × rf_m} (hg : g_X4_goOver w m a1 a2 = some r) : rf_Con j_X4_goOver 4 (rf_sh w) [.ref 175, .int a1, .int a2] (rf_MM w m) (some (.int r.1)) (rf_MM w r.2) := by
  refine rf_con j_X4_goOver 4 ⟨by decide +kernel, rfl, Nat.le_of_ble_eq_true rfl⟩ (fun K C hE => ?_)
  unfold g_X4_goOver at hg
  show rf_V 7 (rf_sh w) K 0 0 0 ([(0, .ref 175), (1, .int a1), (2, .int a2)], [], rf_MM w m)
  refine rf_seg C [(.iconst 0, 1), (.istore 3, 1), (.iconst (-1), 1), (.istore 4, 2), (.iconst 0, 1), (.istore 5, 2)] (pc' := 8) (S' := ([(5, .int 0), (4, .int ((-1))), (3, .int 0), (0, .ref 175), (1, .int a1), (2, .int a2)], [], rf_MM w m)) (by decide +kernel) rfl trivial ?_
  refine rf_few [3, 4, 5, 2, 1, 0] rfl ?_
  exact s_X4_goOver_8 C hE rf_fuel a1 a2 0 ((-1)) 0 m hg
-- X5_isMark
abbrev j_X5_isMark : rf_J := (5, yX5_isMark, cX5_isMark, 2, (some .boolean))
theorem mw_X5_isMark : rf_mv j_X5_isMark (rf_R 5) 1 := ⟨⟨rf_mem 16 (by decide +kernel), rf_mem 17 (by decide +kernel), rf_mem 0 (by decide +kernel), rf_mem 17 (by decide +kernel)⟩, by decide +kernel, by decide⟩
def g_X5_isMark (w : rf_w) (m : rf_m) (a1 : Int32) : Option (Int32 × rf_m) := (if a1 < 0 then some (0, m) else (if (m.1 1 4) ≤ a1 then some (0, m) else some (1, m)))
theorem c_X5_isMark {w : rf_w} {m : rf_m} {a1 : Int32} {r : Int32 × rf_m} (hg : g_X5_isMark w m a1 = some r) : rf_Con j_X5_isMark 1 (rf_sh w) [.ref 1, .int a1] (rf_MM w m) (some (.int r.1)) (rf_MM w r.2) := by
  refine rf_con j_X5_isMark 1 ⟨by decide +kernel, rfl, Nat.le_of_ble_eq_true rfl⟩ (fun K C hE => ?_)
  unfold g_X5_isMark at hg
  show rf_V 2 (rf_sh w) K 0 0 0 ([(0, .ref 1), (1, .int a1)], [], rf_MM w m)
  refine rf_seg C [(.iload 1, 1)] (pc' := 1) (S' := ([(0, .ref 1), (1, .int a1)], [.int a1], rf_MM w m)) (by decide +kernel) rfl trivial ?_
  refine rf_if_lt C 15 16 (by decide +kernel) (fun hc => ?_) (fun hc => ?_)
  · replace hg := (if_pos hc).symm.trans hg
    refine rf_seg C [(.iconst 0, 1)] (pc' := 17) (S' := ([(0, .ref 1), (1, .int a1)], [.int 0], rf_MM w m)) (by decide +kernel) rfl trivial ?_
    obtain rfl := Option.some.inj hg
    exact rf_zret C hE (by decide) (by decide +kernel)
  · replace hg := (if_neg hc).symm.trans hg
    refine rf_seg C [(.iload 1, 1), (.aload 0, 1), (.invokeinterface 5 4, 3)] (pc' := 9) (S' := ([(0, .ref 1), (1, .int a1)], [.int (m.1 1 4), .int a1], rf_MM w m)) (by decide +kernel) rfl trivial ?_
    refine rf_icmp_ge C 7 16 (by decide +kernel) (fun hc => ?_) (fun hc => ?_)
    · replace hg := (if_pos hc).symm.trans hg
      refine rf_seg C [(.iconst 0, 1)] (pc' := 17) (S' := ([(0, .ref 1), (1, .int a1)], [.int 0], rf_MM w m)) (by decide +kernel) rfl trivial ?_
      obtain rfl := Option.some.inj hg
      exact rf_zret C hE (by decide) (by decide +kernel)
    · replace hg := (if_neg hc).symm.trans hg
      refine rf_seg C [(.iconst 1, 1)] (pc' := 13) (S' := ([(0, .ref 1), (1, .int a1)], [.int 1], rf_MM w m)) (by decide +kernel) rfl trivial ?_
      refine rf_goto C 4 17 (by decide +kernel) ?_
      obtain rfl := Option.some.inj hg
      exact rf_zret C hE (by decide) (by decide +kernel)
-- X5_isPair
abbrev j_X5_isPair : rf_J := (5, yX5_isPair, cX5_isPair, 3, (some .boolean))
theorem mw_X5_isPair : rf_mv j_X5_isPair (rf_R 5) 2 := ⟨⟨rf_mem 19 (by decide +kernel), rf_mem 19 (by decide +kernel), rf_mem 0 (by decide +kernel), rf_mem 19 (by decide +kernel)⟩, by decide +kernel, by decide⟩
def g_X5_isPair (w : rf_w) (m : rf_m) (a1 : Int32) (a2 : Int32) : Option (Int32 × rf_m) := rf_b (g_X5_isMark w m a1) fun y0 m0 => (if y0 = 0 then some (0, m0) else rf_b (g_X5_isMark w m0 a2) fun y1 m1 => (if y1 = 0 then some (0, m1) else (if a1 = a2 then some (0, m1) else some (1, m1))))
theorem c_X5_isPair {w : rf_w} {m : rf_m} {a1 : Int32} {a2 : Int32} {r : Int32 × rf_m} (hg : g_X5_isPair w m a1 a2 = some r) : rf_Con j_X5_isPair 2 (rf_sh w) [.ref 1, .int a1, .int a2] (rf_MM w m) (some (.int r.1)) (rf_MM w r.2) := by
  refine rf_con j_X5_isPair 2 ⟨by decide +kernel, rfl, Nat.le_of_ble_eq_true rfl⟩ (fun K C hE => ?_)
  unfold g_X5_isPair at hg
  show rf_V 3 (rf_sh w) K 0 0 0 ([(0, .ref 1), (1, .int a1), (2, .int a2)], [], rf_MM w m)
  refine rf_seg C [(.aload 0, 1), (.iload 1, 1)] (pc' := 2) (S' := ([(0, .ref 1), (1, .int a1), (2, .int a2)], [.int a1, .ref 1], rf_MM w m)) (by decide +kernel) rfl trivial ?_
  obtain ⟨y0, m0, hc0, hg⟩ := rf_b_some hg
  refine rf_callv C rf_fit0 j_X5_isMark (ci := 5) (As := [.int a1]) (rest := []) mw_X5_isMark (c_X5_isMark hc0) (by decide) rfl (by decide) lk_5_50 rfl rfl (Nat.le_of_ble_eq_true rfl) (by decide +kernel) ?_
  show rf_V 3 (rf_sh w) K 0 0 5 ([(0, .ref 1), (1, .int a1), (2, .int a2)], [.int y0], rf_MM w m0)
  refine rf_if_eq C 20 25 (by decide +kernel) (fun hc => ?_) (fun hc => ?_)
  · replace hg := (if_pos hc).symm.trans hg
    refine rf_seg C [(.iconst 0, 1)] (pc' := 26) (S' := ([(0, .ref 1), (1, .int a1), (2, .int a2)], [.int 0], rf_MM w m0)) (by decide +kernel) rfl trivial ?_
    obtain rfl := Option.some.inj hg
    exact rf_zret C hE (by decide) (by decide +kernel)
  · replace hg := (if_neg hc).symm.trans hg
    refine rf_seg C [(.aload 0, 1), (.iload 2, 1)] (pc' := 10) (S' := ([(0, .ref 1), (1, .int a1), (2, .int a2)], [.int a2, .ref 1], rf_MM w m0)) (by decide +kernel) rfl trivial ?_
    obtain ⟨y1, m1, hc1, hg⟩ := rf_b_some hg
    refine rf_callv C rf_fit0 j_X5_isMark (ci := 5) (As := [.int a2]) (rest := []) mw_X5_isMark (c_X5_isMark hc1) (by decide) rfl (by decide) lk_5_50 rfl rfl (Nat.le_of_ble_eq_true rfl) (by decide +kernel) ?_
    show rf_V 3 (rf_sh w) K 0 0 13 ([(0, .ref 1), (1, .int a1), (2, .int a2)], [.int y1], rf_MM w m1)
    refine rf_if_eq C 12 25 (by decide +kernel) (fun hc => ?_) (fun hc => ?_)
    · replace hg := (if_pos hc).symm.trans hg
      refine rf_seg C [(.iconst 0, 1)] (pc' := 26) (S' := ([(0, .ref 1), (1, .int a1), (2, .int a2)], [.int 0], rf_MM w m1)) (by decide +kernel) rfl trivial ?_
      obtain rfl := Option.some.inj hg
      exact rf_zret C hE (by decide) (by decide +kernel)
    · replace hg := (if_neg hc).symm.trans hg
      refine rf_seg C [(.iload 1, 1), (.iload 2, 1)] (pc' := 18) (S' := ([(0, .ref 1), (1, .int a1), (2, .int a2)], [.int a2, .int a1], rf_MM w m1)) (by decide +kernel) rfl trivial ?_
      refine rf_icmp_eq C 7 25 (by decide +kernel) (fun hc => ?_) (fun hc => ?_)
      · replace hg := (if_pos hc).symm.trans hg
        refine rf_seg C [(.iconst 0, 1)] (pc' := 26) (S' := ([(0, .ref 1), (1, .int a1), (2, .int a2)], [.int 0], rf_MM w m1)) (by decide +kernel) rfl trivial ?_
        obtain rfl := Option.some.inj hg
        exact rf_zret C hE (by decide) (by decide +kernel)
      · replace hg := (if_neg hc).symm.trans hg
        refine rf_seg C [(.iconst 1, 1)] (pc' := 22) (S' := ([(0, .ref 1), (1, .int a1), (2, .int a2)], [.int 1], rf_MM w m1)) (by decide +kernel) rfl trivial ?_
        refine rf_goto C 4 26 (by decide +kernel) ?_
        obtain rfl := Option.some.inj hg
        exact rf_zret C hE (by decide) (by decide +kernel)
