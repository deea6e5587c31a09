/-! methods as functions, and their contracts (written by wip/tool/gen.py) -/
-- X5_isMark
abbrev j_X5_isMark : rf_J := (5, yX5_isMark, cX5_isMark, 2, (some .boolean))
theorem mw_X5_isMark : rf_mv j_X5_isMark (rf_R 5) 1 := ⟨⟨rf_mem 16 (by decide +kernel), rf_mem 17 (by decide +kernel), rf_mem 0 (by decide +kernel), rf_mem 17 (by decide +kernel)⟩, by decide +kernel, by decide⟩
def g_X5_isMark (w : rf_w) (m : rf_m) (a1 : Int32) : Option (Int32 × rf_m) := (if a1 < 0 then some (0, m) else (if (m.1 1 4) ≤ a1 then some (0, m) else some (1, m)))
theorem c_X5_isMark {w : rf_w} {m : rf_m} {a1 : Int32} {r : Int32 × rf_m} (hg : g_X5_isMark w m a1 = some r) : rf_Con j_X5_isMark 1 (rf_sh w) [.ref 1, .int a1] (rf_MM w m) (some (.int r.1)) (rf_MM w r.2) := by
  refine rf_con j_X5_isMark 1 ⟨by decide +kernel, rfl, Nat.le_of_ble_eq_true rfl⟩ (fun K C hE => ?_)
  unfold g_X5_isMark at hg
  show rf_V 2 (rf_sh w) K 0 0 0 ([(0, .ref 1), (1, .int a1)], [], rf_MM w m)
  refine rf_seg C [(.iload 1, 1)] (pc' := 1) (S' := ([(0, .ref 1), (1, .int a1)], [.int a1], rf_MM w m)) (by decide +kernel) rfl trivial ?_
  refine rf_if_lt C 15 16 (by decide +kernel) (fun hc => ?_) (fun hc => ?_)
  · replace hg := (if_pos hc).symm.trans hg
    refine rf_seg C [(.iconst 0, 1)] (pc' := 17) (S' := ([(0, .ref 1), (1, .int a1)], [.int 0], rf_MM w m)) (by decide +kernel) rfl trivial ?_
    obtain rfl := Option.some.inj hg
    exact rf_zret C hE (by decide) (by decide +kernel)
  · replace hg := (if_neg hc).symm.trans hg
    refine rf_seg C [(.iload 1, 1), (.aload 0, 1), (.invokeinterface 5 4, 3)] (pc' := 9) (S' := ([(0, .ref 1), (1, .int a1)], [.int (m.1 1 4), .int a1], rf_MM w m)) (by decide +kernel) rfl trivial ?_
    refine rf_icmp_ge C 7 16 (by decide +kernel) (fun hc => ?_) (fun hc => ?_)
    · replace hg := (if_pos hc).symm.trans hg
      refine rf_seg C [(.iconst 0, 1)] (pc' := 17) (S' := ([(0, .ref 1), (1, .int a1)], [.int 0], rf_MM w m)) (by decide +kernel) rfl trivial ?_
      obtain rfl := Option.some.inj hg
      exact rf_zret C hE (by decide) (by decide +kernel)
    · replace hg := (if_neg hc).symm.trans hg
      refine rf_seg C [(.iconst 1, 1)] (pc' := 13) (S' := ([(0, .ref 1), (1, .int a1)], [.int 1], rf_MM w m)) (by decide +kernel) rfl trivial ?_
      refine rf_goto C 4 17 (by decide +kernel) ?_
      obtain rfl := Option.some.inj hg
      exact rf_zret C hE (by decide) (by decide +kernel)
-- X14_isMark
abbrev j_X14_isMark : rf_J := (14, yX14_isMark, cX14_isMark, 2, (some .boolean))
theorem mw_X14_isMark : rf_mv j_X14_isMark (rf_R 14) 1 := ⟨⟨rf_mem 17 (by decide +kernel), rf_mem 17 (by decide +kernel), rf_mem 0 (by decide +kernel), rf_mem 17 (by decide +kernel)⟩, by decide +kernel, by decide⟩
def g_X14_isMark (w : rf_w) (m : rf_m) (a1 : Int32) : Option (Int32 × rf_m) := (if a1 < 0 then some (0, m) else (if (m.1 206 4) ≤ a1 then some (0, m) else some (1, m)))
theorem c_X14_isMark {w : rf_w} {m : rf_m} {a1 : Int32} {r : Int32 × rf_m} (hg : g_X14_isMark w m a1 = some r) : rf_Con j_X14_isMark 1 (rf_sh w) [.ref 206, .int a1] (rf_MM w m) (some (.int r.1)) (rf_MM w r.2) := by
  refine rf_con j_X14_isMark 1 ⟨by decide +kernel, rfl, Nat.le_of_ble_eq_true rfl⟩ (fun K C hE => ?_)
  unfold g_X14_isMark at hg
  show rf_V 2 (rf_sh w) K 0 0 0 ([(0, .ref 206), (1, .int a1)], [], rf_MM w m)
  refine rf_seg C [(.iload 1, 1)] (pc' := 1) (S' := ([(0, .ref 206), (1, .int a1)], [.int a1], rf_MM w m)) (by decide +kernel) rfl trivial ?_
  refine rf_if_lt C 15 16 (by decide +kernel) (fun hc => ?_) (fun hc => ?_)
  · replace hg := (if_pos hc).symm.trans hg
    refine rf_seg C [(.iconst 0, 1)] (pc' := 17) (S' := ([(0, .ref 206), (1, .int a1)], [.int 0], rf_MM w m)) (by decide +kernel) rfl trivial ?_
    obtain rfl := Option.some.inj hg
    exact rf_zret C hE (by decide) (by decide +kernel)
  · replace hg := (if_neg hc).symm.trans hg
    refine rf_seg C [(.iload 1, 1), (.aload 0, 1), (.invokeinterface 14 4, 3)] (pc' := 9) (S' := ([(0, .ref 206), (1, .int a1)], [.int (m.1 206 4), .int a1], rf_MM w m)) (by decide +kernel) rfl trivial ?_
    refine rf_icmp_ge C 7 16 (by decide +kernel) (fun hc => ?_) (fun hc => ?_)
    · replace hg := (if_pos hc).symm.trans hg
      refine rf_seg C [(.iconst 0, 1)] (pc' := 17) (S' := ([(0, .ref 206), (1, .int a1)], [.int 0], rf_MM w m)) (by decide +kernel) rfl trivial ?_
      obtain rfl := Option.some.inj hg
      exact rf_zret C hE (by decide) (by decide +kernel)
    · replace hg := (if_neg hc).symm.trans hg
      refine rf_seg C [(.iconst 1, 1)] (pc' := 13) (S' := ([(0, .ref 206), (1, .int a1)], [.int 1], rf_MM w m)) (by decide +kernel) rfl trivial ?_
      refine rf_goto C 4 17 (by decide +kernel) ?_
      obtain rfl := Option.some.inj hg
      exact rf_zret C hE (by decide) (by decide +kernel)
-- X14_isCell
abbrev j_X14_isCell : rf_J := (14, yX14_isCell, cX14_isCell, 1, (some .boolean))
theorem mw_X14_isCell : rf_ms j_X14_isCell 1 := ⟨⟨rf_mem 14 (by decide +kernel), rf_mem 0 (by decide +kernel), rf_mem 14 (by decide +kernel)⟩, by decide +kernel, by decide⟩
def g_X14_isCell (w : rf_w) (m : rf_m) (a0 : Int32) : Option (Int32 × rf_m) := (if a0 < 0 then some (0, m) else (if 1024 ≤ a0 then some (0, m) else some (1, m)))
theorem c_X14_isCell {w : rf_w} {m : rf_m} {a0 : Int32} {r : Int32 × rf_m} (hg : g_X14_isCell w m a0 = some r) : rf_Con j_X14_isCell 1 (rf_sh w) [.int a0] (rf_MM w m) (some (.int r.1)) (rf_MM w r.2) := by
  refine rf_con j_X14_isCell 1 ⟨by decide +kernel, rfl, Nat.le_of_ble_eq_true rfl⟩ (fun K C hE => ?_)
  unfold g_X14_isCell at hg
  show rf_V 1 (rf_sh w) K 0 0 0 ([(0, .int a0)], [], rf_MM w m)
  refine rf_seg C [(.iload 0, 1)] (pc' := 1) (S' := ([(0, .int a0)], [.int a0], rf_MM w m)) (by decide +kernel) rfl trivial ?_
  refine rf_if_lt C 14 15 (by decide +kernel) (fun hc => ?_) (fun hc => ?_)
  · replace hg := (if_pos hc).symm.trans hg
    refine rf_seg C [(.iconst 0, 1)] (pc' := 16) (S' := ([(0, .int a0)], [.int 0], rf_MM w m)) (by decide +kernel) rfl trivial ?_
    obtain rfl := Option.some.inj hg
    exact rf_zret C hE (by decide) (by decide +kernel)
  · replace hg := (if_neg hc).symm.trans hg
    refine rf_seg C [(.iload 0, 1), (.iconst 1024, 3)] (pc' := 8) (S' := ([(0, .int a0)], [.int 1024, .int a0], rf_MM w m)) (by decide +kernel) rfl trivial ?_
    refine rf_icmp_ge C 7 15 (by decide +kernel) (fun hc => ?_) (fun hc => ?_)
    · replace hg := (if_pos hc).symm.trans hg
      refine rf_seg C [(.iconst 0, 1)] (pc' := 16) (S' := ([(0, .int a0)], [.int 0], rf_MM w m)) (by decide +kernel) rfl trivial ?_
      obtain rfl := Option.some.inj hg
      exact rf_zret C hE (by decide) (by decide +kernel)
    · replace hg := (if_neg hc).symm.trans hg
      refine rf_seg C [(.iconst 1, 1)] (pc' := 12) (S' := ([(0, .int a0)], [.int 1], rf_MM w m)) (by decide +kernel) rfl trivial ?_
      refine rf_goto C 4 16 (by decide +kernel) ?_
      obtain rfl := Option.some.inj hg
      exact rf_zret C hE (by decide) (by decide +kernel)
-- X14_in
abbrev j_X14_in : rf_J := (14, yX14_in, cX14_in, 3, (some .boolean))
theorem mw_X14_in : rf_ms j_X14_in 3 := ⟨⟨rf_mem 15 (by decide +kernel), rf_mem 0 (by decide +kernel), rf_mem 15 (by decide +kernel)⟩, by decide +kernel, by decide⟩
def g_X14_in (w : rf_w) (m : rf_m) (a0 : Int32) (a1 : Int32) (a2 : Int32) : Option (Int32 × rf_m) := (if a0 < a1 then some (0, m) else (if a2 < a0 then some (0, m) else some (1, m)))
theorem c_X14_in {w : rf_w} {m : rf_m} {a0 : Int32} {a1 : Int32} {a2 : Int32} {r : Int32 × rf_m} (hg : g_X14_in w m a0 a1 a2 = some r) : rf_Con j_X14_in 1 (rf_sh w) [.int a0, .int a1, .int a2] (rf_MM w m) (some (.int r.1)) (rf_MM w r.2) := by
  refine rf_con j_X14_in 1 ⟨by decide +kernel, rfl, Nat.le_of_ble_eq_true rfl⟩ (fun K C hE => ?_)
  unfold g_X14_in at hg
  show rf_V 3 (rf_sh w) K 0 0 0 ([(0, .int a0), (1, .int a1), (2, .int a2)], [], rf_MM w m)
  refine rf_seg C [(.iload 0, 1), (.iload 1, 1)] (pc' := 2) (S' := ([(0, .int a0), (1, .int a1), (2, .int a2)], [.int a1, .int a0], rf_MM w m)) (by decide +kernel) rfl trivial ?_
  refine rf_icmp_lt C 12 14 (by decide +kernel) (fun hc => ?_) (fun hc => ?_)
  · replace hg := (if_pos hc).symm.trans hg
    refine rf_seg C [(.iconst 0, 1)] (pc' := 15) (S' := ([(0, .int a0), (1, .int a1), (2, .int a2)], [.int 0], rf_MM w m)) (by decide +kernel) rfl trivial ?_
    obtain rfl := Option.some.inj hg
    exact rf_zret C hE (by decide) (by decide +kernel)
  · replace hg := (if_neg hc).symm.trans hg
    refine rf_seg C [(.iload 0, 1), (.iload 2, 1)] (pc' := 7) (S' := ([(0, .int a0), (1, .int a1), (2, .int a2)], [.int a2, .int a0], rf_MM w m)) (by decide +kernel) rfl trivial ?_
    refine rf_icmp_gt C 7 14 (by decide +kernel) (fun hc => ?_) (fun hc => ?_)
    · replace hg := (if_pos hc).symm.trans hg
      refine rf_seg C [(.iconst 0, 1)] (pc' := 15) (S' := ([(0, .int a0), (1, .int a1), (2, .int a2)], [.int 0], rf_MM w m)) (by decide +kernel) rfl trivial ?_
      obtain rfl := Option.some.inj hg
      exact rf_zret C hE (by decide) (by decide +kernel)
    · replace hg := (if_neg hc).symm.trans hg
      refine rf_seg C [(.iconst 1, 1)] (pc' := 11) (S' := ([(0, .int a0), (1, .int a1), (2, .int a2)], [.int 1], rf_MM w m)) (by decide +kernel) rfl trivial ?_
      refine rf_goto C 4 15 (by decide +kernel) ?_
      obtain rfl := Option.some.inj hg
      exact rf_zret C hE (by decide) (by decide +kernel)
-- X14_denied
abbrev j_X14_denied : rf_J := (14, yX14_denied, cX14_denied, 2, (some .boolean))
theorem mw_X14_denied : rf_mv j_X14_denied (rf_R 14) 1 := ⟨⟨rf_mem 14 (by decide +kernel), rf_mem 14 (by decide +kernel), rf_mem 0 (by decide +kernel), rf_mem 14 (by decide +kernel)⟩, by decide +kernel, by decide⟩
def g_X14_denied (w : rf_w) (m : rf_m) (a1 : Int32) : Option (Int32 × rf_m) := some (0, rf_i (rf_i m 206 1 a1) 206 2 ((-1)))
theorem c_X14_denied {w : rf_w} {m : rf_m} {a1 : Int32} {r : Int32 × rf_m} (hg : g_X14_denied w m a1 = some r) : rf_Con j_X14_denied 1 (rf_sh w) [.ref 206, .int a1] (rf_MM w m) (some (.int r.1)) (rf_MM w r.2) := by
  refine rf_con j_X14_denied 1 ⟨by decide +kernel, rfl, Nat.le_of_ble_eq_true rfl⟩ (fun K C hE => ?_)
  unfold g_X14_denied at hg
  show rf_V 2 (rf_sh w) K 0 0 0 ([(0, .ref 206), (1, .int a1)], [], rf_MM w m)
  refine rf_seg C [(.aload 0, 1), (.iload 1, 1), (.multianewarray 14 1, 3), (.aload 0, 1), (.iconst (-1), 1), (.multianewarray 14 2, 3), (.iconst 0, 1)] (pc' := 11) (S' := ([(0, .ref 206), (1, .int a1)], [.int 0], rf_MM w (rf_i (rf_i m 206 1 a1) 206 2 ((-1))))) (by decide +kernel) rfl trivial ?_
  obtain rfl := Option.some.inj hg
  exact rf_zret C hE (by decide) (by decide +kernel)
-- X14_granted
abbrev j_X14_granted : rf_J := (14, yX14_granted, cX14_granted, 1, (some .boolean))
theorem mw_X14_granted : rf_mv j_X14_granted (rf_R 14) 0 := ⟨⟨rf_mem 15 (by decide +kernel), rf_mem 15 (by decide +kernel), rf_mem 0 (by decide +kernel), rf_mem 15 (by decide +kernel)⟩, by decide +kernel, by decide⟩
def g_X14_granted (w : rf_w) (m : rf_m) : Option (Int32 × rf_m) := some (1, rf_i (rf_i m 206 1 0) 206 2 ((-1)))
theorem c_X14_granted {w : rf_w} {m : rf_m} {r : Int32 × rf_m} (hg : g_X14_granted w m = some r) : rf_Con j_X14_granted 1 (rf_sh w) [.ref 206] (rf_MM w m) (some (.int r.1)) (rf_MM w r.2) := by
  refine rf_con j_X14_granted 1 ⟨by decide +kernel, rfl, Nat.le_of_ble_eq_true rfl⟩ (fun K C hE => ?_)
  unfold g_X14_granted at hg
  show rf_V 1 (rf_sh w) K 0 0 0 ([(0, .ref 206)], [], rf_MM w m)
  refine rf_seg C [(.aload 0, 1), (.iconst 0, 1), (.multianewarray 14 1, 3), (.aload 0, 1), (.iconst (-1), 1), (.multianewarray 14 2, 3), (.iconst 1, 1)] (pc' := 11) (S' := ([(0, .ref 206)], [.int 1], rf_MM w (rf_i (rf_i m 206 1 0) 206 2 ((-1))))) (by decide +kernel) rfl trivial ?_
  obtain rfl := Option.some.inj hg
  exact rf_zret C hE (by decide) (by decide +kernel)
-- X14_cell
abbrev j_X14_cell : rf_J := (14, yX14_cell, cX14_cell, 4, (some .boolean))
theorem mw_X14_cell : rf_mv j_X14_cell (rf_R 14) 3 := ⟨⟨rf_mem 14 (by decide +kernel), rf_mem 14 (by decide +kernel), rf_mem 0 (by decide +kernel), rf_mem 14 (by decide +kernel)⟩, by decide +kernel, by decide⟩
def g_X14_cell (w : rf_w) (m : rf_m) (a1 : Int32) (a2 : Int32) (a3 : Int32) : Option (Int32 × rf_m) := rf_b (g_X14_isCell w (rf_i m 206 0 0) a1) fun y0 m0 => (if y0 = 0 then rf_b (g_X14_denied w m0 1) fun y8 m8 => rf_g (rf_01 y8) (some (y8, m8)) else rf_b (g_X14_in w m0 a2 0 2000) fun y1 m1 => (if y1 = 0 then rf_b (g_X14_denied w m1 2) fun y2 m2 => rf_g (rf_01 y2) (some (y2, m2)) else rf_b (g_X14_in w m1 a3 0 90) fun y3 m3 => (if y3 = 0 then rf_b (g_X14_denied w m3 2) fun y7 m7 => rf_g (rf_01 y7) (some (y7, m7)) else rf_g (rf_in a1 1024) (rf_g (rf_in a1 1024) (rf_b (g_X14_granted w (rf_i (rf_i m3 207 (Int32.toNatClampNeg a1) a2) 208 (Int32.toNatClampNeg a1) a3)) fun y6 m6 => rf_g (rf_01 y6) (some (y6, m6)))))))
theorem c_X14_cell {w : rf_w} {m : rf_m} {a1 : Int32} {a2 : Int32} {a3 : Int32} {r : Int32 × rf_m} (hg : g_X14_cell w m a1 a2 a3 = some r) : rf_Con j_X14_cell 2 (rf_sh w) [.ref 206, .int a1, .int a2, .int a3] (rf_MM w m) (some (.int r.1)) (rf_MM w r.2) := by
  refine rf_con j_X14_cell 2 ⟨by decide +kernel, rfl, Nat.le_of_ble_eq_true rfl⟩ (fun K C hE => ?_)
  unfold g_X14_cell at hg
  show rf_V 4 (rf_sh w) K 0 0 0 ([(0, .ref 206), (1, .int a1), (2, .int a2), (3, .int a3)], [], rf_MM w m)
  refine rf_seg C [(.aload 0, 1), (.iconst 0, 1), (.multianewarray 14 0, 3), (.iload 1, 1)] (pc' := 6) (S' := ([(0, .ref 206), (1, .int a1), (2, .int a2), (3, .int a3)], [.int a1], rf_MM w (rf_i m 206 0 0))) (by decide +kernel) rfl trivial ?_
  obtain ⟨y0, m0, hc0, hg⟩ := rf_b_some hg
  refine rf_calls C rf_fit0 j_X14_isCell (As := [.int a1]) (rest := []) mw_X14_isCell (c_X14_isCell hc0) (by decide) lk_14_338 rfl rfl (Nat.le_of_ble_eq_true rfl) (by decide +kernel) ?_
  show rf_V 4 (rf_sh w) K 0 0 9 ([(0, .ref 206), (1, .int a1), (2, .int a2), (3, .int a3)], [.int y0], rf_MM w m0)
  refine rf_if_ne C 9 18 (by decide +kernel) (fun hc => ?_) (fun hc => ?_)
  · replace hg := (if_neg hc).symm.trans hg
    refine rf_seg C [(.iload 2, 1), (.iconst 0, 1), (.iconst 2000, 3)] (pc' := 23) (S' := ([(0, .ref 206), (1, .int a1), (2, .int a2), (3, .int a3)], [.int 2000, .int 0, .int a2], rf_MM w m0)) (by decide +kernel) rfl trivial ?_
    obtain ⟨y1, m1, hc1, hg⟩ := rf_b_some hg
    refine rf_calls C rf_fit0 j_X14_in (As := [.int a2, .int 0, .int 2000]) (rest := []) mw_X14_in (c_X14_in hc1) (by decide) lk_14_345 rfl rfl (Nat.le_of_ble_eq_true rfl) (by decide +kernel) ?_
    show rf_V 4 (rf_sh w) K 0 0 26 ([(0, .ref 206), (1, .int a1), (2, .int a2), (3, .int a3)], [.int y1], rf_MM w m1)
    refine rf_if_eq C 13 39 (by decide +kernel) (fun hc => ?_) (fun hc => ?_)
    · replace hg := (if_pos hc).symm.trans hg
      refine rf_seg C [(.aload 0, 1), (.iconst 2, 1)] (pc' := 41) (S' := ([(0, .ref 206), (1, .int a1), (2, .int a2), (3, .int a3)], [.int 2, .ref 206], rf_MM w m1)) (by decide +kernel) rfl trivial ?_
      obtain ⟨y2, m2, hc2, hg⟩ := rf_b_some hg
      refine rf_callv C rf_fit0 j_X14_denied (ci := 14) (As := [.int 2]) (rest := []) mw_X14_denied (c_X14_denied hc2) (by decide) rfl (by decide) lk_14_342 rfl rfl (Nat.le_of_ble_eq_true rfl) (by decide +kernel) ?_
      show rf_V 4 (rf_sh w) K 0 0 44 ([(0, .ref 206), (1, .int a1), (2, .int a2), (3, .int a3)], [.int y2], rf_MM w m2)
      obtain ⟨q01, hg⟩ := rf_g_some hg
      obtain rfl := Option.some.inj hg
      exact rf_zret C hE (rf_01_of q01) (by decide +kernel)
    · replace hg := (if_neg hc).symm.trans hg
      refine rf_seg C [(.iload 3, 1), (.iconst 0, 1), (.iconst 90, 2)] (pc' := 33) (S' := ([(0, .ref 206), (1, .int a1), (2, .int a2), (3, .int a3)], [.int 90, .int 0, .int a3], rf_MM w m1)) (by decide +kernel) rfl trivial ?_
      obtain ⟨y3, m3, hc3, hg⟩ := rf_b_some hg
      refine rf_calls C rf_fit0 j_X14_in (As := [.int a3, .int 0, .int 90]) (rest := []) mw_X14_in (c_X14_in hc3) (by decide) lk_14_345 rfl rfl (Nat.le_of_ble_eq_true rfl) (by decide +kernel) ?_
      show rf_V 4 (rf_sh w) K 0 0 36 ([(0, .ref 206), (1, .int a1), (2, .int a2), (3, .int a3)], [.int y3], rf_MM w m3)
      refine rf_if_ne C 9 45 (by decide +kernel) (fun hc => ?_) (fun hc => ?_)
      · replace hg := (if_neg hc).symm.trans hg
        obtain ⟨q4, hg⟩ := rf_g_some hg
        obtain ⟨q5, hg⟩ := rf_g_some hg
        refine rf_seg C [(.aload 0, 1), (.invokeinterface 14 7, 3), (.iload 1, 1), (.iload 2, 1), (.iastore, 1), (.aload 0, 1), (.invokeinterface 14 8, 3), (.iload 1, 1), (.iload 3, 1), (.iastore, 1), (.aload 0, 1)] (pc' := 60) (S' := ([(0, .ref 206), (1, .int a1), (2, .int a2), (3, .int a3)], [.ref 206], rf_MM w (rf_i (rf_i m3 207 (Int32.toNatClampNeg a1) a2) 208 (Int32.toNatClampNeg a1) a3))) (by decide +kernel) rfl ⟨(rf_in_of q4), (rf_in_of q5)⟩ ?_
        obtain ⟨y6, m6, hc6, hg⟩ := rf_b_some hg
        refine rf_callv C rf_fit0 j_X14_granted (ci := 14) (As := []) (rest := []) mw_X14_granted (c_X14_granted hc6) (by decide) rfl (by decide) lk_14_349 rfl rfl (Nat.le_of_ble_eq_true rfl) (by decide +kernel) ?_
        show rf_V 4 (rf_sh w) K 0 0 63 ([(0, .ref 206), (1, .int a1), (2, .int a2), (3, .int a3)], [.int y6], rf_MM w m6)
        obtain ⟨q01, hg⟩ := rf_g_some hg
        obtain rfl := Option.some.inj hg
        exact rf_zret C hE (rf_01_of q01) (by decide +kernel)
      · replace hg := (if_pos hc).symm.trans hg
        refine rf_seg C [(.aload 0, 1), (.iconst 2, 1)] (pc' := 41) (S' := ([(0, .ref 206), (1, .int a1), (2, .int a2), (3, .int a3)], [.int 2, .ref 206], rf_MM w m3)) (by decide +kernel) rfl trivial ?_
        obtain ⟨y7, m7, hc7, hg⟩ := rf_b_some hg
        refine rf_callv C rf_fit0 j_X14_denied (ci := 14) (As := [.int 2]) (rest := []) mw_X14_denied (c_X14_denied hc7) (by decide) rfl (by decide) lk_14_342 rfl rfl (Nat.le_of_ble_eq_true rfl) (by decide +kernel) ?_
        show rf_V 4 (rf_sh w) K 0 0 44 ([(0, .ref 206), (1, .int a1), (2, .int a2), (3, .int a3)], [.int y7], rf_MM w m7)
        obtain ⟨q01, hg⟩ := rf_g_some hg
        obtain rfl := Option.some.inj hg
        exact rf_zret C hE (rf_01_of q01) (by decide +kernel)
  · replace hg := (if_pos hc).symm.trans hg
    refine rf_seg C [(.aload 0, 1), (.iconst 1, 1)] (pc' := 14) (S' := ([(0, .ref 206), (1, .int a1), (2, .int a2), (3, .int a3)], [.int 1, .ref 206], rf_MM w m0)) (by decide +kernel) rfl trivial ?_
    obtain ⟨y8, m8, hc8, hg⟩ := rf_b_some hg
    refine rf_callv C rf_fit0 j_X14_denied (ci := 14) (As := [.int 1]) (rest := []) mw_X14_denied (c_X14_denied hc8) (by decide) rfl (by decide) lk_14_342 rfl rfl (Nat.le_of_ble_eq_true rfl) (by decide +kernel) ?_
    show rf_V 4 (rf_sh w) K 0 0 17 ([(0, .ref 206), (1, .int a1), (2, .int a2), (3, .int a3)], [.int y8], rf_MM w m8)
    obtain ⟨q01, hg⟩ := rf_g_some hg
    obtain rfl := Option.some.inj hg
    exact rf_zret C hE (rf_01_of q01) (by decide +kernel)
-- X14_reachOf
abbrev j_X14_reachOf : rf_J := (14, yX14_reachOf, cX14_reachOf, 4, (some .int))
theorem mw_X14_reachOf : rf_mv j_X14_reachOf (rf_R 14) 2 := ⟨⟨rf_mem 21 (by decide +kernel), rf_mem 21 (by decide +kernel), rf_mem 0 (by decide +kernel), rf_mem 21 (by decide +kernel)⟩, by decide +kernel, by decide⟩
def g_X14_reachOf_37 (w : rf_w) (rec2 : Int32 → Int32 → Int32 → rf_m → Option (Int32 × rf_m)) (a1 : Int32) (a2 : Int32) (a3 : Int32) (m : rf_m) : Option (Int32 × rf_m) := rec2 a1 a2 (a3 + 1) m
def g_X14_reachOf_2_b (w : rf_w) (rec2 : Int32 → Int32 → Int32 → rf_m → Option (Int32 × rf_m)) (a1 : Int32) (a2 : Int32) (a3 : Int32) (m : rf_m) : Option (Int32 × rf_m) := (if (m.1 206 6) ≤ a3 then some (32, m) else rf_g (rf_in a3 200) ((if (m.1 211 (Int32.toNatClampNeg a3)) = a1 then rf_g (rf_in a3 200) ((if (m.1 212 (Int32.toNatClampNeg a3)) = a2 then rf_g (rf_in a3 200) (some (m.1 213 (Int32.toNatClampNeg a3), m)) else g_X14_reachOf_37 w rec2 a1 a2 a3 m)) else g_X14_reachOf_37 w rec2 a1 a2 a3 m)))
def g_X14_reachOf_2 (w : rf_w) : Nat → Int32 → Int32 → Int32 → rf_m → Option (Int32 × rf_m)
  | 0, _, _, _, _ => none
  | n + 1, a1, a2, a3, m => g_X14_reachOf_2_b w (g_X14_reachOf_2 w n) a1 a2 a3 m
def g_X14_reachOf (w : rf_w) (m : rf_m) (a1 : Int32) (a2 : Int32) : Option (Int32 × rf_m) := g_X14_reachOf_2 w rf_fuel a1 a2 0 m
theorem s_X14_reachOf_37 {w : rf_w} {K : rf_K} {r : Int32 × rf_m} (C : rf_Ctx 14 cX14_reachOf 4 1 (rf_sh w) K) (hE : rf_End (some .int) K (rf_sh w) 0 0 (some (.int r.1)) (rf_MM w r.2)) {rec2 : Int32 → Int32 → Int32 → rf_m → Option (Int32 × rf_m)} (hr2 : ∀ (a1 : Int32) (a2 : Int32) (a3 : Int32) (m : rf_m), rec2 a1 a2 a3 m = some r → rf_V 4 (rf_sh w) K 0 0 2 ([(0, .ref 206), (1, .int a1), (2, .int a2), (3, .int a3)], [], rf_MM w m)) (a1 : Int32) (a2 : Int32) (a3 : Int32) (m : rf_m) (hg : g_X14_reachOf_37 w rec2 a1 a2 a3 m = some r) : rf_V 4 (rf_sh w) K 0 0 37 ([(0, .ref 206), (1, .int a1), (2, .int a2), (3, .int a3)], [], rf_MM w m) := by
  unfold g_X14_reachOf_37 at hg
  refine rf_seg C [(.iinc 3 1, 3)] (pc' := 40) (S' := ([(3, .int (a3 + 1)), (0, .ref 206), (1, .int a1), (2, .int a2)], [], rf_MM w m)) (by decide +kernel) rfl trivial ?_
  refine rf_goto C (-38) 2 (by decide +kernel) ?_
  refine rf_few [1, 2, 3, 0] rfl ?_
  exact hr2 a1 a2 (a3 + 1) m hg
theorem s_X14_reachOf_2_b {w : rf_w} {K : rf_K} {r : Int32 × rf_m} (C : rf_Ctx 14 cX14_reachOf 4 1 (rf_sh w) K) (hE : rf_End (some .int) K (rf_sh w) 0 0 (some (.int r.1)) (rf_MM w r.2)) {rec2 : Int32 → Int32 → Int32 → rf_m → Option (Int32 × rf_m)} (hr2 : ∀ (a1 : Int32) (a2 : Int32) (a3 : Int32) (m : rf_m), rec2 a1 a2 a3 m = some r → rf_V 4 (rf_sh w) K 0 0 2 ([(0, .ref 206), (1, .int a1), (2, .int a2), (3, .int a3)], [], rf_MM w m)) (a1 : Int32) (a2 : Int32) (a3 : Int32) (m : rf_m) (hg : g_X14_reachOf_2_b w rec2 a1 a2 a3 m = some r) : rf_V 4 (rf_sh w) K 0 0 2 ([(0, .ref 206), (1, .int a1), (2, .int a2), (3, .int a3)], [], rf_MM w m) := by
  unfold g_X14_reachOf_2_b at hg
  refine rf_seg C [(.iload 3, 1), (.aload 0, 1), (.invokeinterface 14 6, 3)] (pc' := 7) (S' := ([(0, .ref 206), (1, .int a1), (2, .int a2), (3, .int a3)], [.int (m.1 206 6), .int a3], rf_MM w m)) (by decide +kernel) rfl trivial ?_
  refine rf_icmp_ge C 36 43 (by decide +kernel) (fun hc => ?_) (fun hc => ?_)
  · replace hg := (if_pos hc).symm.trans hg
    refine rf_seg C [(.iconst 32, 2)] (pc' := 45) (S' := ([(0, .ref 206), (1, .int a1), (2, .int a2), (3, .int a3)], [.int 32], rf_MM w m)) (by decide +kernel) rfl trivial ?_
    obtain rfl := Option.some.inj hg
    exact rf_iret C hE (by decide +kernel)
  · replace hg := (if_neg hc).symm.trans hg
    obtain ⟨q0, hg⟩ := rf_g_some hg
    refine rf_seg C [(.aload 0, 1), (.invokeinterface 14 11, 3), (.iload 3, 1), (.iaload, 1), (.iload 1, 1)] (pc' := 17) (S' := ([(0, .ref 206), (1, .int a1), (2, .int a2), (3, .int a3)], [.int a1, .int (m.1 211 (Int32.toNatClampNeg a3))], rf_MM w m)) (by decide +kernel) rfl (rf_in_of q0) ?_
    refine rf_icmp_ne C 20 37 (by decide +kernel) (fun hc => ?_) (fun hc => ?_)
    · replace hg := (if_neg hc).symm.trans hg
      refine rf_few [0, 1, 2, 3] rfl ?_
      exact s_X14_reachOf_37 C hE hr2 a1 a2 a3 m hg
    · replace hg := (if_pos hc).symm.trans hg
      obtain ⟨q1, hg⟩ := rf_g_some hg
      refine rf_seg C [(.aload 0, 1), (.invokeinterface 14 12, 3), (.iload 3, 1), (.iaload, 1), (.iload 2, 1)] (pc' := 27) (S' := ([(0, .ref 206), (1, .int a1), (2, .int a2), (3, .int a3)], [.int a2, .int (m.1 212 (Int32.toNatClampNeg a3))], rf_MM w m)) (by decide +kernel) rfl (rf_in_of q1) ?_
      refine rf_icmp_ne C 10 37 (by decide +kernel) (fun hc => ?_) (fun hc => ?_)
      · replace hg := (if_neg hc).symm.trans hg
        refine rf_few [0, 1, 2, 3] rfl ?_
        exact s_X14_reachOf_37 C hE hr2 a1 a2 a3 m hg
      · replace hg := (if_pos hc).symm.trans hg
        obtain ⟨q2, hg⟩ := rf_g_some hg
        refine rf_seg C [(.aload 0, 1), (.invokeinterface 14 13, 3), (.iload 3, 1), (.iaload, 1)] (pc' := 36) (S' := ([(0, .ref 206), (1, .int a1), (2, .int a2), (3, .int a3)], [.int (m.1 213 (Int32.toNatClampNeg a3))], rf_MM w m)) (by decide +kernel) rfl (rf_in_of q2) ?_
        obtain rfl := Option.some.inj hg
        exact rf_iret C hE (by decide +kernel)
theorem s_X14_reachOf_2 {w : rf_w} {K : rf_K} {r : Int32 × rf_m} (C : rf_Ctx 14 cX14_reachOf 4 1 (rf_sh w) K) (hE : rf_End (some .int) K (rf_sh w) 0 0 (some (.int r.1)) (rf_MM w r.2)) (n : Nat) : ∀ (a1 : Int32) (a2 : Int32) (a3 : Int32) (m : rf_m), g_X14_reachOf_2 w n a1 a2 a3 m = some r → rf_V 4 (rf_sh w) K 0 0 2 ([(0, .ref 206), (1, .int a1), (2, .int a2), (3, .int a3)], [], rf_MM w m) := by
  induction n with
  | zero => intro a1 a2 a3 m hg; cases hg
  | succ n ih => intro a1 a2 a3 m hg; exact s_X14_reachOf_2_b C hE ih a1 a2 a3 m hg
theorem c_X14_reachOf {w : rf_w} {m : rf_m} {a1 : Int32} {a2 : Int32} {r : Int32 × rf_m} (hg : g_X14_reachOf w m a1 a2 = some r) : rf_Con j_X14_reachOf 1 (rf_sh w) [.ref 206, .int a1, .int a2] (rf_MM w m) (some (.int r.1)) (rf_MM w r.2) := by
  refine rf_con j_X14_reachOf 1 ⟨by decide +kernel, rfl, Nat.le_of_ble_eq_true rfl⟩ (fun K C hE => ?_)
  unfold g_X14_reachOf at hg
  show rf_V 4 (rf_sh w) K 0 0 0 ([(0, .ref 206), (1, .int a1), (2, .int a2)], [], rf_MM w m)
  refine rf_seg C [(.iconst 0, 1), (.istore 3, 1)] (pc' := 2) (S' := ([(3, .int 0), (0, .ref 206), (1, .int a1), (2, .int a2)], [], rf_MM w m)) (by decide +kernel) rfl trivial ?_
  refine rf_few [1, 2, 3, 0] rfl ?_
  exact s_X14_reachOf_2 C hE rf_fuel a1 a2 0 m hg
