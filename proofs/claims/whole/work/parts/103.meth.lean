/-! methods as functions, and their contracts (written by wip/tool/gen.py) -/
-- X5_isTaken
abbrev j_X5_isTaken : rf_J := (5, yX5_isTaken, cX5_isTaken, 3, (some .boolean))
theorem mw_X5_isTaken : rf_mv j_X5_isTaken (rf_R 5) 1 := ⟨⟨rf_mem 15 (by decide +kernel), rf_mem 15 (by decide +kernel), rf_mem 0 (by decide +kernel), rf_mem 15 (by decide +kernel)⟩, by decide +kernel, by decide⟩
def g_X5_isTaken_2_b (w : rf_w) (rec2 : Int32 → Int32 → rf_m → Option (Int32 × rf_m)) (a1 : Int32) (a2 : Int32) (m : rf_m) : Option (Int32 × rf_m) := (if (m.1 1 4) ≤ a2 then some (0, m) else rf_g (rf_in a2 30) ((if (m.1 4 (Int32.toNatClampNeg a2)) = a1 then some (1, m) else rec2 a1 (a2 + 1) m)))
def g_X5_isTaken_2 (w : rf_w) : Nat → Int32 → Int32 → rf_m → Option (Int32 × rf_m)
  | 0, _, _, _ => none
  | n + 1, a1, a2, m => g_X5_isTaken_2_b w (g_X5_isTaken_2 w n) a1 a2 m
def g_X5_isTaken (w : rf_w) (m : rf_m) (a1 : Int32) : Option (Int32 × rf_m) := g_X5_isTaken_2 w rf_fuel a1 0 m
theorem s_X5_isTaken_2_b {w : rf_w} {K : rf_K} {r : Int32 × rf_m} (C : rf_Ctx 5 cX5_isTaken 3 1 (rf_sh w) K) (hE : rf_End (some .boolean) K (rf_sh w) 0 0 (some (.int r.1)) (rf_MM w r.2)) {rec2 : Int32 → Int32 → rf_m → Option (Int32 × rf_m)} (hr2 : ∀ (a1 : Int32) (a2 : Int32) (m : rf_m), rec2 a1 a2 m = some r → rf_V 3 (rf_sh w) K 0 0 2 ([(0, .ref 1), (1, .int a1), (2, .int a2)], [], rf_MM w m)) (a1 : Int32) (a2 : Int32) (m : rf_m) (hg : g_X5_isTaken_2_b w rec2 a1 a2 m = some r) : rf_V 3 (rf_sh w) K 0 0 2 ([(0, .ref 1), (1, .int a1), (2, .int a2)], [], rf_MM w m) := by
  unfold g_X5_isTaken_2_b at hg
  refine rf_seg C [(.iload 2, 1), (.aload 0, 1), (.invokeinterface 5 4, 3)] (pc' := 7) (S' := ([(0, .ref 1), (1, .int a1), (2, .int a2)], [.int (m.1 1 4), .int a2], rf_MM w m)) (by decide +kernel) rfl trivial ?_
  refine rf_icmp_ge C 21 28 (by decide +kernel) (fun hc => ?_) (fun hc => ?_)
  · replace hg := (if_pos hc).symm.trans hg
    refine rf_seg C [(.iconst 0, 1)] (pc' := 29) (S' := ([(0, .ref 1), (1, .int a1), (2, .int a2)], [.int 0], rf_MM w m)) (by decide +kernel) rfl trivial ?_
    obtain rfl := Option.some.inj hg
    exact rf_zret C hE (by decide) (by decide +kernel)
  · replace hg := (if_neg hc).symm.trans hg
    obtain ⟨q0, hg⟩ := rf_g_some hg
    refine rf_seg C [(.aload 0, 1), (.invokeinterface 5 2, 3), (.iload 2, 1), (.iaload, 1), (.iload 1, 1)] (pc' := 17) (S' := ([(0, .ref 1), (1, .int a1), (2, .int a2)], [.int a1, .int (m.1 4 (Int32.toNatClampNeg a2))], rf_MM w m)) (by decide +kernel) rfl (rf_in_of q0) ?_
    refine rf_icmp_ne C 5 22 (by decide +kernel) (fun hc => ?_) (fun hc => ?_)
    · replace hg := (if_neg hc).symm.trans hg
      refine rf_seg C [(.iinc 2 1, 3)] (pc' := 25) (S' := ([(2, .int (a2 + 1)), (0, .ref 1), (1, .int a1)], [], rf_MM w m)) (by decide +kernel) rfl trivial ?_
      refine rf_goto C (-23) 2 (by decide +kernel) ?_
      refine rf_few [1, 2, 0] rfl ?_
      exact hr2 a1 (a2 + 1) m hg
    · replace hg := (if_pos hc).symm.trans hg
      refine rf_seg C [(.iconst 1, 1)] (pc' := 21) (S' := ([(0, .ref 1), (1, .int a1), (2, .int a2)], [.int 1], rf_MM w m)) (by decide +kernel) rfl trivial ?_
      obtain rfl := Option.some.inj hg
      exact rf_zret C hE (by decide) (by decide +kernel)
theorem s_X5_isTaken_2 {w : rf_w} {K : rf_K} {r : Int32 × rf_m} (C : rf_Ctx 5 cX5_isTaken 3 1 (rf_sh w) K) (hE : rf_End (some .boolean) K (rf_sh w) 0 0 (some (.int r.1)) (rf_MM w r.2)) (n : Nat) : ∀ (a1 : Int32) (a2 : Int32) (m : rf_m), g_X5_isTaken_2 w n a1 a2 m = some r → rf_V 3 (rf_sh w) K 0 0 2 ([(0, .ref 1), (1, .int a1), (2, .int a2)], [], rf_MM w m) := by
  induction n with
  | zero => intro a1 a2 m hg; cases hg
  | succ n ih => intro a1 a2 m hg; exact s_X5_isTaken_2_b C hE ih a1 a2 m hg
theorem c_X5_isTaken {w : rf_w} {m : rf_m} {a1 : Int32} {r : Int32 × rf_m} (hg : g_X5_isTaken w m a1 = some r) : rf_Con j_X5_isTaken 1 (rf_sh w) [.ref 1, .int a1] (rf_MM w m) (some (.int r.1)) (rf_MM w r.2) := by
  refine rf_con j_X5_isTaken 1 ⟨by decide +kernel, rfl, Nat.le_of_ble_eq_true rfl⟩ (fun K C hE => ?_)
  unfold g_X5_isTaken at hg
  show rf_V 3 (rf_sh w) K 0 0 0 ([(0, .ref 1), (1, .int a1)], [], rf_MM w m)
  refine rf_seg C [(.iconst 0, 1), (.istore 2, 1)] (pc' := 2) (S' := ([(2, .int 0), (0, .ref 1), (1, .int a1)], [], rf_MM w m)) (by decide +kernel) rfl trivial ?_
  refine rf_few [1, 2, 0] rfl ?_
  exact s_X5_isTaken_2 C hE rf_fuel a1 0 m hg
-- X5_addMark
abbrev j_X5_addMark : rf_J := (5, yX5_addMark, cX5_addMark, 2, (some .int))
theorem mw_X5_addMark : rf_mv j_X5_addMark (rf_R 5) 1 := ⟨⟨rf_mem 15 (by decide +kernel), rf_mem 15 (by decide +kernel), rf_mem 0 (by decide +kernel), rf_mem 15 (by decide +kernel)⟩, by decide +kernel, by decide⟩
def g_X5_addMark (w : rf_w) (m : rf_m) (a1 : Int32) : Option (Int32 × rf_m) := rf_g (rf_in (m.1 1 4) 30) (some (((rf_i (rf_i m 4 (Int32.toNatClampNeg (m.1 1 4)) a1) 1 4 (((rf_i m 4 (Int32.toNatClampNeg (m.1 1 4)) a1).1 1 4) + 1)).1 1 4) - 1, rf_i (rf_i m 4 (Int32.toNatClampNeg (m.1 1 4)) a1) 1 4 (((rf_i m 4 (Int32.toNatClampNeg (m.1 1 4)) a1).1 1 4) + 1)))
theorem c_X5_addMark {w : rf_w} {m : rf_m} {a1 : Int32} {r : Int32 × rf_m} (hg : g_X5_addMark w m a1 = some r) : rf_Con j_X5_addMark 1 (rf_sh w) [.ref 1, .int a1] (rf_MM w m) (some (.int r.1)) (rf_MM w r.2) := by
  refine rf_con j_X5_addMark 1 ⟨by decide +kernel, rfl, Nat.le_of_ble_eq_true rfl⟩ (fun K C hE => ?_)
  unfold g_X5_addMark at hg
  show rf_V 2 (rf_sh w) K 0 0 0 ([(0, .ref 1), (1, .int a1)], [], rf_MM w m)
  obtain ⟨q0, hg⟩ := rf_g_some hg
  refine rf_seg C [(.aload 0, 1), (.invokeinterface 5 2, 3), (.aload 0, 1), (.invokeinterface 5 4, 3), (.iload 1, 1), (.iastore, 1), (.aload 0, 1), (.dup, 1), (.invokeinterface 5 4, 3), (.iconst 1, 1), (.iadd, 1), (.multianewarray 5 4, 3), (.aload 0, 1), (.invokeinterface 5 4, 3), (.iconst 1, 1), (.isub, 1)] (pc' := 26) (S' := ([(0, .ref 1), (1, .int a1)], [.int (((rf_i (rf_i m 4 (Int32.toNatClampNeg (m.1 1 4)) a1) 1 4 (((rf_i m 4 (Int32.toNatClampNeg (m.1 1 4)) a1).1 1 4) + 1)).1 1 4) - 1)], rf_MM w (rf_i (rf_i m 4 (Int32.toNatClampNeg (m.1 1 4)) a1) 1 4 (((rf_i m 4 (Int32.toNatClampNeg (m.1 1 4)) a1).1 1 4) + 1)))) (by decide +kernel) rfl (rf_in_of q0) ?_
  obtain rfl := Option.some.inj hg
  exact rf_iret C hE (by decide +kernel)
-- X5_raise
abbrev j_X5_raise : rf_J := (5, yX5_raise, cX5_raise, 4, none)
theorem mw_X5_raise : rf_mv j_X5_raise (rf_R 5) 3 := ⟨⟨rf_mem 17 (by decide +kernel), rf_mem 17 (by decide +kernel), rf_mem 0 (by decide +kernel), rf_mem 17 (by decide +kernel)⟩, by decide +kernel, by decide⟩
def g_X5_raise (w : rf_w) (m : rf_m) (a1 : Int32) (a2 : Int32) (a3 : Int32) : Option (rf_m) := (if (m.1 1 9) < 512 then rf_g (rf_in (m.1 1 9) 512) (rf_g (rf_in ((rf_i m 6 (Int32.toNatClampNeg (m.1 1 9)) a1).1 1 9) 512) (rf_g (rf_in ((rf_i (rf_i m 6 (Int32.toNatClampNeg (m.1 1 9)) a1) 7 (Int32.toNatClampNeg ((rf_i m 6 (Int32.toNatClampNeg (m.1 1 9)) a1).1 1 9)) a2).1 1 9) 512) (some (rf_i (rf_i (rf_i (rf_i m 6 (Int32.toNatClampNeg (m.1 1 9)) a1) 7 (Int32.toNatClampNeg ((rf_i m 6 (Int32.toNatClampNeg (m.1 1 9)) a1).1 1 9)) a2) 8 (Int32.toNatClampNeg ((rf_i (rf_i m 6 (Int32.toNatClampNeg (m.1 1 9)) a1) 7 (Int32.toNatClampNeg ((rf_i m 6 (Int32.toNatClampNeg (m.1 1 9)) a1).1 1 9)) a2).1 1 9)) a3) 1 9 (((rf_i (rf_i (rf_i m 6 (Int32.toNatClampNeg (m.1 1 9)) a1) 7 (Int32.toNatClampNeg ((rf_i m 6 (Int32.toNatClampNeg (m.1 1 9)) a1).1 1 9)) a2) 8 (Int32.toNatClampNeg ((rf_i (rf_i m 6 (Int32.toNatClampNeg (m.1 1 9)) a1) 7 (Int32.toNatClampNeg ((rf_i m 6 (Int32.toNatClampNeg (m.1 1 9)) a1).1 1 9)) a2).1 1 9)) a3).1 1 9) + 1))))) else some m)
theorem c_X5_raise {w : rf_w} {m : rf_m} {a1 : Int32} {a2 : Int32} {a3 : Int32} {r : rf_m} (hg : g_X5_raise w m a1 a2 a3 = some r) : rf_Con j_X5_raise 1 (rf_sh w) [.ref 1, .int a1, .int a2, .int a3] (rf_MM w m) none (rf_MM w r) := by
  refine rf_con j_X5_raise 1 ⟨by decide +kernel, rfl, Nat.le_of_ble_eq_true rfl⟩ (fun K C hE => ?_)
  unfold g_X5_raise at hg
  show rf_V 4 (rf_sh w) K 0 0 0 ([(0, .ref 1), (1, .int a1), (2, .int a2), (3, .int a3)], [], rf_MM w m)
  refine rf_seg C [(.aload 0, 1), (.invokeinterface 5 9, 3), (.iconst 512, 3)] (pc' := 7) (S' := ([(0, .ref 1), (1, .int a1), (2, .int a2), (3, .int a3)], [.int 512, .int (m.1 1 9)], rf_MM w m)) (by decide +kernel) rfl trivial ?_
  refine rf_icmp_lt C 4 11 (by decide +kernel) (fun hc => ?_) (fun hc => ?_)
  · replace hg := (if_pos hc).symm.trans hg
    obtain ⟨q0, hg⟩ := rf_g_some hg
    obtain ⟨q1, hg⟩ := rf_g_some hg
    obtain ⟨q2, hg⟩ := rf_g_some hg
    refine rf_seg C [(.aload 0, 1), (.invokeinterface 5 6, 3), (.aload 0, 1), (.invokeinterface 5 9, 3), (.iload 1, 1), (.iastore, 1), (.aload 0, 1), (.invokeinterface 5 7, 3), (.aload 0, 1), (.invokeinterface 5 9, 3), (.iload 2, 1), (.iastore, 1), (.aload 0, 1), (.invokeinterface 5 8, 3), (.aload 0, 1), (.invokeinterface 5 9, 3), (.iload 3, 1), (.iastore, 1), (.aload 0, 1), (.dup, 1), (.invokeinterface 5 9, 3), (.iconst 1, 1), (.iadd, 1), (.multianewarray 5 9, 3)] (pc' := 51) (S' := ([(0, .ref 1), (1, .int a1), (2, .int a2), (3, .int a3)], [], rf_MM w (rf_i (rf_i (rf_i (rf_i m 6 (Int32.toNatClampNeg (m.1 1 9)) a1) 7 (Int32.toNatClampNeg ((rf_i m 6 (Int32.toNatClampNeg (m.1 1 9)) a1).1 1 9)) a2) 8 (Int32.toNatClampNeg ((rf_i (rf_i m 6 (Int32.toNatClampNeg (m.1 1 9)) a1) 7 (Int32.toNatClampNeg ((rf_i m 6 (Int32.toNatClampNeg (m.1 1 9)) a1).1 1 9)) a2).1 1 9)) a3) 1 9 (((rf_i (rf_i (rf_i m 6 (Int32.toNatClampNeg (m.1 1 9)) a1) 7 (Int32.toNatClampNeg ((rf_i m 6 (Int32.toNatClampNeg (m.1 1 9)) a1).1 1 9)) a2) 8 (Int32.toNatClampNeg ((rf_i (rf_i m 6 (Int32.toNatClampNeg (m.1 1 9)) a1) 7 (Int32.toNatClampNeg ((rf_i m 6 (Int32.toNatClampNeg (m.1 1 9)) a1).1 1 9)) a2).1 1 9)) a3).1 1 9) + 1)))) (by decide +kernel) rfl (by exact ⟨(rf_in_of q0), (rf_in_of q1), (rf_in_of q2)⟩) ?_
    obtain rfl := Option.some.inj hg
    exact rf_vret C hE (by decide +kernel)
  · replace hg := (if_neg hc).symm.trans hg
    obtain rfl := Option.some.inj hg
    exact rf_vret C hE (by decide +kernel)
-- X5_towerOn
abbrev j_X5_towerOn : rf_J := (5, yX5_towerOn, cX5_towerOn, 4, (some .int))
theorem mw_X5_towerOn : rf_mv j_X5_towerOn (rf_R 5) 2 := ⟨⟨rf_mem 20 (by decide +kernel), rf_mem 20 (by decide +kernel), rf_mem 0 (by decide +kernel), rf_mem 20 (by decide +kernel)⟩, by decide +kernel, by decide⟩
def g_X5_towerOn_38 (w : rf_w) (rec7 : Int32 → Int32 → Int32 → rf_m → Option (Int32 × rf_m)) (a1 : Int32) (a2 : Int32) (a3 : Int32) (m : rf_m) : Option (Int32 × rf_m) := rec7 a1 a2 (a3 + (-1)) m
def g_X5_towerOn_7_b (w : rf_w) (rec7 : Int32 → Int32 → Int32 → rf_m → Option (Int32 × rf_m)) (a1 : Int32) (a2 : Int32) (a3 : Int32) (m : rf_m) : Option (Int32 × rf_m) := (if a3 < 0 then some (0, m) else rf_g (rf_in a3 512) ((if (m.1 6 (Int32.toNatClampNeg a3)) = a1 then rf_g (rf_in a3 512) ((if a2 < (m.1 7 (Int32.toNatClampNeg a3)) then g_X5_towerOn_38 w rec7 a1 a2 a3 m else rf_g (rf_in a3 512) (some (m.1 8 (Int32.toNatClampNeg a3), m)))) else g_X5_towerOn_38 w rec7 a1 a2 a3 m)))
def g_X5_towerOn_7 (w : rf_w) : Nat → Int32 → Int32 → Int32 → rf_m → Option (Int32 × rf_m)
  | 0, _, _, _, _ => none
  | n + 1, a1, a2, a3, m => g_X5_towerOn_7_b w (g_X5_towerOn_7 w n) a1 a2 a3 m
def g_X5_towerOn (w : rf_w) (m : rf_m) (a1 : Int32) (a2 : Int32) : Option (Int32 × rf_m) := g_X5_towerOn_7 w rf_fuel a1 a2 ((m.1 1 9) - 1) m
theorem s_X5_towerOn_38 {w : rf_w} {K : rf_K} {r : Int32 × rf_m} (C : rf_Ctx 5 cX5_towerOn 4 1 (rf_sh w) K) (hE : rf_End (some .int) K (rf_sh w) 0 0 (some (.int r.1)) (rf_MM w r.2)) {rec7 : Int32 → Int32 → Int32 → rf_m → Option (Int32 × rf_m)} (hr7 : ∀ (a1 : Int32) (a2 : Int32) (a3 : Int32) (m : rf_m), rec7 a1 a2 a3 m = some r → rf_V 4 (rf_sh w) K 0 0 7 ([(0, .ref 1), (1, .int a1), (2, .int a2), (3, .int a3)], [], rf_MM w m)) (a1 : Int32) (a2 : Int32) (a3 : Int32) (m : rf_m) (hg : g_X5_towerOn_38 w rec7 a1 a2 a3 m = some r) : rf_V 4 (rf_sh w) K 0 0 38 ([(0, .ref 1), (1, .int a1), (2, .int a2), (3, .int a3)], [], rf_MM w m) := by
  unfold g_X5_towerOn_38 at hg
  refine rf_seg C [(.iinc 3 (-1), 3)] (pc' := 41) (S' := ([(3, .int (a3 + (-1))), (0, .ref 1), (1, .int a1), (2, .int a2)], [], rf_MM w m)) (by decide +kernel) rfl trivial ?_
  refine rf_goto C (-34) 7 (by decide +kernel) ?_
  refine rf_few [1, 2, 3, 0] rfl ?_
  exact hr7 a1 a2 (a3 + (-1)) m hg
theorem s_X5_towerOn_7_b {w : rf_w} {K : rf_K} {r : Int32 × rf_m} (C : rf_Ctx 5 cX5_towerOn 4 1 (rf_sh w) K) (hE : rf_End (some .int) K (rf_sh w) 0 0 (some (.int r.1)) (rf_MM w r.2)) {rec7 : Int32 → Int32 → Int32 → rf_m → Option (Int32 × rf_m)} (hr7 : ∀ (a1 : Int32) (a2 : Int32) (a3 : Int32) (m : rf_m), rec7 a1 a2 a3 m = some r → rf_V 4 (rf_sh w) K 0 0 7 ([(0, .ref 1), (1, .int a1), (2, .int a2), (3, .int a3)], [], rf_MM w m)) (a1 : Int32) (a2 : Int32) (a3 : Int32) (m : rf_m) (hg : g_X5_towerOn_7_b w rec7 a1 a2 a3 m = some r) : rf_V 4 (rf_sh w) K 0 0 7 ([(0, .ref 1), (1, .int a1), (2, .int a2), (3, .int a3)], [], rf_MM w m) := by
  unfold g_X5_towerOn_7_b at hg
  refine rf_seg C [(.iload 3, 1)] (pc' := 8) (S' := ([(0, .ref 1), (1, .int a1), (2, .int a2), (3, .int a3)], [.int a3], rf_MM w m)) (by decide +kernel) rfl trivial ?_
  refine rf_if_lt C 36 44 (by decide +kernel) (fun hc => ?_) (fun hc => ?_)
  · replace hg := (if_pos hc).symm.trans hg
    refine rf_seg C [(.iconst 0, 1)] (pc' := 45) (S' := ([(0, .ref 1), (1, .int a1), (2, .int a2), (3, .int a3)], [.int 0], rf_MM w m)) (by decide +kernel) rfl trivial ?_
    obtain rfl := Option.some.inj hg
    exact rf_iret C hE (by decide +kernel)
  · replace hg := (if_neg hc).symm.trans hg
    obtain ⟨q0, hg⟩ := rf_g_some hg
    refine rf_seg C [(.aload 0, 1), (.invokeinterface 5 6, 3), (.iload 3, 1), (.iaload, 1), (.iload 1, 1)] (pc' := 18) (S' := ([(0, .ref 1), (1, .int a1), (2, .int a2), (3, .int a3)], [.int a1, .int (m.1 6 (Int32.toNatClampNeg a3))], rf_MM w m)) (by decide +kernel) rfl (rf_in_of q0) ?_
    refine rf_icmp_ne C 20 38 (by decide +kernel) (fun hc => ?_) (fun hc => ?_)
    · replace hg := (if_neg hc).symm.trans hg
      refine rf_few [0, 1, 2, 3] rfl ?_
      exact s_X5_towerOn_38 C hE hr7 a1 a2 a3 m hg
    · replace hg := (if_pos hc).symm.trans hg
      obtain ⟨q1, hg⟩ := rf_g_some hg
      refine rf_seg C [(.aload 0, 1), (.invokeinterface 5 7, 3), (.iload 3, 1), (.iaload, 1), (.iload 2, 1)] (pc' := 28) (S' := ([(0, .ref 1), (1, .int a1), (2, .int a2), (3, .int a3)], [.int a2, .int (m.1 7 (Int32.toNatClampNeg a3))], rf_MM w m)) (by decide +kernel) rfl (rf_in_of q1) ?_
      refine rf_icmp_gt C 10 38 (by decide +kernel) (fun hc => ?_) (fun hc => ?_)
      · replace hg := (if_pos hc).symm.trans hg
        refine rf_few [0, 1, 2, 3] rfl ?_
        exact s_X5_towerOn_38 C hE hr7 a1 a2 a3 m hg
      · replace hg := (if_neg hc).symm.trans hg
        obtain ⟨q2, hg⟩ := rf_g_some hg
        refine rf_seg C [(.aload 0, 1), (.invokeinterface 5 8, 3), (.iload 3, 1), (.iaload, 1)] (pc' := 37) (S' := ([(0, .ref 1), (1, .int a1), (2, .int a2), (3, .int a3)], [.int (m.1 8 (Int32.toNatClampNeg a3))], rf_MM w m)) (by decide +kernel) rfl (rf_in_of q2) ?_
        obtain rfl := Option.some.inj hg
        exact rf_iret C hE (by decide +kernel)
theorem s_X5_towerOn_7 {w : rf_w} {K : rf_K} {r : Int32 × rf_m} (C : rf_Ctx 5 cX5_towerOn 4 1 (rf_sh w) K) (hE : rf_End (some .int) K (rf_sh w) 0 0 (some (.int r.1)) (rf_MM w r.2)) (n : Nat) : ∀ (a1 : Int32) (a2 : Int32) (a3 : Int32) (m : rf_m), g_X5_towerOn_7 w n a1 a2 a3 m = some r → rf_V 4 (rf_sh w) K 0 0 7 ([(0, .ref 1), (1, .int a1), (2, .int a2), (3, .int a3)], [], rf_MM w m) := by
  induction n with
  | zero => intro a1 a2 a3 m hg; cases hg
  | succ n ih => intro a1 a2 a3 m hg; exact s_X5_towerOn_7_b C hE ih a1 a2 a3 m hg
theorem c_X5_towerOn {w : rf_w} {m : rf_m} {a1 : Int32} {a2 : Int32} {r : Int32 × rf_m} (hg : g_X5_towerOn w m a1 a2 = some r) : rf_Con j_X5_towerOn 1 (rf_sh w) [.ref 1, .int a1, .int a2] (rf_MM w m) (some (.int r.1)) (rf_MM w r.2) := by
  refine rf_con j_X5_towerOn 1 ⟨by decide +kernel, rfl, Nat.le_of_ble_eq_true rfl⟩ (fun K C hE => ?_)
  unfold g_X5_towerOn at hg
  show rf_V 4 (rf_sh w) K 0 0 0 ([(0, .ref 1), (1, .int a1), (2, .int a2)], [], rf_MM w m)
  refine rf_seg C [(.aload 0, 1), (.invokeinterface 5 9, 3), (.iconst 1, 1), (.isub, 1), (.istore 3, 1)] (pc' := 7) (S' := ([(3, .int ((m.1 1 9) - 1)), (0, .ref 1), (1, .int a1), (2, .int a2)], [], rf_MM w m)) (by decide +kernel) rfl trivial ?_
  refine rf_few [1, 2, 3, 0] rfl ?_
  exact s_X5_towerOn_7 C hE rf_fuel a1 a2 ((m.1 1 9) - 1) m hg
-- X5_hazeAt
abbrev j_X5_hazeAt : rf_J := (5, yX5_hazeAt, cX5_hazeAt, 3, (some .int))
theorem mw_X5_hazeAt : rf_mv j_X5_hazeAt (rf_R 5) 1 := ⟨⟨rf_mem 18 (by decide +kernel), rf_mem 18 (by decide +kernel), rf_mem 0 (by decide +kernel), rf_mem 18 (by decide +kernel)⟩, by decide +kernel, by decide⟩
def g_X5_hazeAt_2_b (w : rf_w) (rec2 : Int32 → Int32 → rf_m → Option (Int32 × rf_m)) (a1 : Int32) (a2 : Int32) (m : rf_m) : Option (Int32 × rf_m) := (if (m.1 1 12) ≤ a2 then some ((-1), m) else rf_g (rf_in a2 200) ((if (m.1 9 (Int32.toNatClampNeg a2)) = a1 then some (a2, m) else rec2 a1 (a2 + 1) m)))
def g_X5_hazeAt_2 (w : rf_w) : Nat → Int32 → Int32 → rf_m → Option (Int32 × rf_m)
  | 0, _, _, _ => none
  | n + 1, a1, a2, m => g_X5_hazeAt_2_b w (g_X5_hazeAt_2 w n) a1 a2 m
def g_X5_hazeAt (w : rf_w) (m : rf_m) (a1 : Int32) : Option (Int32 × rf_m) := g_X5_hazeAt_2 w rf_fuel a1 0 m
theorem s_X5_hazeAt_2_b {w : rf_w} {K : rf_K} {r : Int32 × rf_m} (C : rf_Ctx 5 cX5_hazeAt 3 1 (rf_sh w) K) (hE : rf_End (some .int) K (rf_sh w) 0 0 (some (.int r.1)) (rf_MM w r.2)) {rec2 : Int32 → Int32 → rf_m → Option (Int32 × rf_m)} (hr2 : ∀ (a1 : Int32) (a2 : Int32) (m : rf_m), rec2 a1 a2 m = some r → rf_V 3 (rf_sh w) K 0 0 2 ([(0, .ref 1), (1, .int a1), (2, .int a2)], [], rf_MM w m)) (a1 : Int32) (a2 : Int32) (m : rf_m) (hg : g_X5_hazeAt_2_b w rec2 a1 a2 m = some r) : rf_V 3 (rf_sh w) K 0 0 2 ([(0, .ref 1), (1, .int a1), (2, .int a2)], [], rf_MM w m) := by
  unfold g_X5_hazeAt_2_b at hg
  refine rf_seg C [(.iload 2, 1), (.aload 0, 1), (.invokeinterface 5 12, 3)] (pc' := 7) (S' := ([(0, .ref 1), (1, .int a1), (2, .int a2)], [.int (m.1 1 12), .int a2], rf_MM w m)) (by decide +kernel) rfl trivial ?_
  refine rf_icmp_ge C 21 28 (by decide +kernel) (fun hc => ?_) (fun hc => ?_)
  · replace hg := (if_pos hc).symm.trans hg
    refine rf_seg C [(.iconst (-1), 1)] (pc' := 29) (S' := ([(0, .ref 1), (1, .int a1), (2, .int a2)], [.int ((-1))], rf_MM w m)) (by decide +kernel) rfl trivial ?_
    obtain rfl := Option.some.inj hg
    exact rf_iret C hE (by decide +kernel)
  · replace hg := (if_neg hc).symm.trans hg
    obtain ⟨q0, hg⟩ := rf_g_some hg
    refine rf_seg C [(.aload 0, 1), (.invokeinterface 5 10, 3), (.iload 2, 1), (.iaload, 1), (.iload 1, 1)] (pc' := 17) (S' := ([(0, .ref 1), (1, .int a1), (2, .int a2)], [.int a1, .int (m.1 9 (Int32.toNatClampNeg a2))], rf_MM w m)) (by decide +kernel) rfl (rf_in_of q0) ?_
    refine rf_icmp_ne C 5 22 (by decide +kernel) (fun hc => ?_) (fun hc => ?_)
    · replace hg := (if_neg hc).symm.trans hg
      refine rf_seg C [(.iinc 2 1, 3)] (pc' := 25) (S' := ([(2, .int (a2 + 1)), (0, .ref 1), (1, .int a1)], [], rf_MM w m)) (by decide +kernel) rfl trivial ?_
      refine rf_goto C (-23) 2 (by decide +kernel) ?_
      refine rf_few [1, 2, 0] rfl ?_
      exact hr2 a1 (a2 + 1) m hg
    · replace hg := (if_pos hc).symm.trans hg
      refine rf_seg C [(.iload 2, 1)] (pc' := 21) (S' := ([(0, .ref 1), (1, .int a1), (2, .int a2)], [.int a2], rf_MM w m)) (by decide +kernel) rfl trivial ?_
      obtain rfl := Option.some.inj hg
      exact rf_iret C hE (by decide +kernel)
theorem s_X5_hazeAt_2 {w : rf_w} {K : rf_K} {r : Int32 × rf_m} (C : rf_Ctx 5 cX5_hazeAt 3 1 (rf_sh w) K) (hE : rf_End (some .int) K (rf_sh w) 0 0 (some (.int r.1)) (rf_MM w r.2)) (n : Nat) : ∀ (a1 : Int32) (a2 : Int32) (m : rf_m), g_X5_hazeAt_2 w n a1 a2 m = some r → rf_V 3 (rf_sh w) K 0 0 2 ([(0, .ref 1), (1, .int a1), (2, .int a2)], [], rf_MM w m) := by
  induction n with
  | zero => intro a1 a2 m hg; cases hg
  | succ n ih => intro a1 a2 m hg; exact s_X5_hazeAt_2_b C hE ih a1 a2 m hg
theorem c_X5_hazeAt {w : rf_w} {m : rf_m} {a1 : Int32} {r : Int32 × rf_m} (hg : g_X5_hazeAt w m a1 = some r) : rf_Con j_X5_hazeAt 1 (rf_sh w) [.ref 1, .int a1] (rf_MM w m) (some (.int r.1)) (rf_MM w r.2) := by
  refine rf_con j_X5_hazeAt 1 ⟨by decide +kernel, rfl, Nat.le_of_ble_eq_true rfl⟩ (fun K C hE => ?_)
  unfold g_X5_hazeAt at hg
  show rf_V 3 (rf_sh w) K 0 0 0 ([(0, .ref 1), (1, .int a1)], [], rf_MM w m)
  refine rf_seg C [(.iconst 0, 1), (.istore 2, 1)] (pc' := 2) (S' := ([(2, .int 0), (0, .ref 1), (1, .int a1)], [], rf_MM w m)) (by decide +kernel) rfl trivial ?_
  refine rf_few [1, 2, 0] rfl ?_
  exact s_X5_hazeAt_2 C hE rf_fuel a1 0 m hg
-- X5_setReach
abbrev j_X5_setReach : rf_J := (5, yX5_setReach, cX5_setReach, 6, (some .boolean))
theorem mw_X5_setReach : rf_mv j_X5_setReach (rf_R 5) 3 := ⟨⟨rf_mem 18 (by decide +kernel), rf_mem 18 (by decide +kernel), rf_mem 0 (by decide +kernel), rf_mem 18 (by decide +kernel)⟩, by decide +kernel, by decide⟩
def g_X5_setReach (w : rf_w) (m : rf_m) (a1 : Int32) (a2 : Int32) (a3 : Int32) : Option (Int32 × rf_m) := rf_b (g_X5_hazeAt w m ((a1 * 24) + a2)) fun y0 m0 => (if y0 = ((-1)) then (if (m0.1 1 12) < 200 then rf_g (rf_in (m0.1 1 12) 200) (rf_g (rf_in (m0.1 1 12) 200) (some (1, rf_i (rf_i (rf_i m0 1 12 ((m0.1 1 12) + 1)) 9 (Int32.toNatClampNeg (m0.1 1 12)) ((a1 * 24) + a2)) 10 (Int32.toNatClampNeg (m0.1 1 12)) a3))) else some (0, m0)) else rf_g (rf_in y0 200) (rf_g (rf_in y0 200) (some (1, rf_i (rf_i m0 9 (Int32.toNatClampNeg y0) ((a1 * 24) + a2)) 10 (Int32.toNatClampNeg y0) a3))))
theorem c_X5_setReach {w : rf_w} {m : rf_m} {a1 : Int32} {a2 : Int32} {a3 : Int32} {r : Int32 × rf_m} (hg : g_X5_setReach w m a1 a2 a3 = some r) : rf_Con j_X5_setReach 2 (rf_sh w) [.ref 1, .int a1, .int a2, .int a3] (rf_MM w m) (some (.int r.1)) (rf_MM w r.2) := by
  refine rf_con j_X5_setReach 2 ⟨by decide +kernel, rfl, Nat.le_of_ble_eq_true rfl⟩ (fun K C hE => ?_)
  unfold g_X5_setReach at hg
  show rf_V 6 (rf_sh w) K 0 0 0 ([(0, .ref 1), (1, .int a1), (2, .int a2), (3, .int a3)], [], rf_MM w m)
  refine rf_seg C [(.iload 1, 1), (.iconst 24, 2), (.imul, 1), (.iload 2, 1), (.iadd, 1), (.istore 4, 2), (.aload 0, 1), (.iload 4, 2)] (pc' := 11) (S' := ([(4, .int ((a1 * 24) + a2)), (0, .ref 1), (1, .int a1), (2, .int a2), (3, .int a3)], [.int ((a1 * 24) + a2), .ref 1], rf_MM w m)) (by decide +kernel) rfl trivial ?_
  obtain ⟨y0, m0, hc0, hg⟩ := rf_b_some hg
  refine rf_callv C rf_fit0 j_X5_hazeAt (ci := 5) (As := [.int ((a1 * 24) + a2)]) (rest := []) mw_X5_hazeAt (c_X5_hazeAt hc0) (by decide) rfl (by decide) lk_5_60 rfl rfl (Nat.le_of_ble_eq_true rfl) (by decide +kernel) ?_
  show rf_V 6 (rf_sh w) K 0 0 14 ([(4, .int ((a1 * 24) + a2)), (0, .ref 1), (1, .int a1), (2, .int a2), (3, .int a3)], [.int y0], rf_MM w m0)
  refine rf_seg C [(.istore 5, 2), (.iload 5, 2), (.iconst (-1), 1)] (pc' := 19) (S' := ([(5, .int y0), (4, .int ((a1 * 24) + a2)), (0, .ref 1), (1, .int a1), (2, .int a2), (3, .int a3)], [.int ((-1)), .int y0], rf_MM w m0)) (by decide +kernel) rfl trivial ?_
  refine rf_icmp_ne C 31 50 (by decide +kernel) (fun hc => ?_) (fun hc => ?_)
  · replace hg := (if_neg hc).symm.trans hg
    obtain ⟨q1, hg⟩ := rf_g_some hg
    obtain ⟨q2, hg⟩ := rf_g_some hg
    refine rf_seg C [(.aload 0, 1), (.invokeinterface 5 10, 3), (.iload 5, 2), (.iload 4, 2), (.iastore, 1), (.aload 0, 1), (.invokeinterface 5 11, 3), (.iload 5, 2), (.iload 3, 1), (.iastore, 1), (.iconst 1, 1)] (pc' := 68) (S' := ([(5, .int y0), (4, .int ((a1 * 24) + a2)), (0, .ref 1), (1, .int a1), (2, .int a2), (3, .int a3)], [.int 1], rf_MM w (rf_i (rf_i m0 9 (Int32.toNatClampNeg y0) ((a1 * 24) + a2)) 10 (Int32.toNatClampNeg y0) a3))) (by decide +kernel) rfl (by exact ⟨(rf_in_of q1), (rf_in_of q2)⟩) ?_
    obtain rfl := Option.some.inj hg
    exact rf_zret C hE (by decide) (by decide +kernel)
  · replace hg := (if_pos hc).symm.trans hg
    refine rf_seg C [(.aload 0, 1), (.invokeinterface 5 12, 3), (.iconst 200, 3)] (pc' := 29) (S' := ([(5, .int y0), (4, .int ((a1 * 24) + a2)), (0, .ref 1), (1, .int a1), (2, .int a2), (3, .int a3)], [.int 200, .int (m0.1 1 12)], rf_MM w m0)) (by decide +kernel) rfl trivial ?_
    refine rf_icmp_lt C 5 34 (by decide +kernel) (fun hc => ?_) (fun hc => ?_)
    · replace hg := (if_pos hc).symm.trans hg
      obtain ⟨q3, hg⟩ := rf_g_some hg
      obtain ⟨q4, hg⟩ := rf_g_some hg
      refine rf_seg C [(.aload 0, 1), (.invokeinterface 5 12, 3), (.istore 5, 2), (.aload 0, 1), (.dup, 1), (.invokeinterface 5 12, 3), (.iconst 1, 1), (.iadd, 1), (.multianewarray 5 12, 3), (.aload 0, 1), (.invokeinterface 5 10, 3), (.iload 5, 2), (.iload 4, 2), (.iastore, 1), (.aload 0, 1), (.invokeinterface 5 11, 3), (.iload 5, 2), (.iload 3, 1), (.iastore, 1), (.iconst 1, 1)] (pc' := 68) (S' := ([(5, .int (m0.1 1 12)), (4, .int ((a1 * 24) + a2)), (0, .ref 1), (1, .int a1), (2, .int a2), (3, .int a3)], [.int 1], rf_MM w (rf_i (rf_i (rf_i m0 1 12 ((m0.1 1 12) + 1)) 9 (Int32.toNatClampNeg (m0.1 1 12)) ((a1 * 24) + a2)) 10 (Int32.toNatClampNeg (m0.1 1 12)) a3))) (by decide +kernel) rfl (by exact ⟨(rf_in_of q3), (rf_in_of q4)⟩) ?_
      obtain rfl := Option.some.inj hg
      exact rf_zret C hE (by decide) (by decide +kernel)
    · replace hg := (if_neg hc).symm.trans hg
      refine rf_seg C [(.iconst 0, 1)] (pc' := 33) (S' := ([(5, .int y0), (4, .int ((a1 * 24) + a2)), (0, .ref 1), (1, .int a1), (2, .int a2), (3, .int a3)], [.int 0], rf_MM w m0)) (by decide +kernel) rfl trivial ?_
      obtain rfl := Option.some.inj hg
      exact rf_zret C hE (by decide) (by decide +kernel)
-- X5_reachTo
abbrev j_X5_reachTo : rf_J := (5, yX5_reachTo, cX5_reachTo, 7, (some .int))
theorem mw_X5_reachTo : rf_mv j_X5_reachTo (rf_R 5) 3 := ⟨⟨rf_mem 20 (by decide +kernel), rf_mem 20 (by decide +kernel), rf_mem 0 (by decide +kernel), rf_mem 20 (by decide +kernel)⟩, by decide +kernel, by decide⟩
def g_X5_reachTo_30 (w : rf_w) (a1 : Int32) (a3 : Int32) (s0 : Int32) (m : rf_m) : Option (Int32 × rf_m) := rf_g (rf_in a1 30) ((if (m.1 5 (Int32.toNatClampNeg a1)) = 0 then (some (s0, m)) else (if a3 < 5 then (some (2 * s0, m)) else (if a3 ≤ 19 then (some (s0, m)) else (some (2 * s0, m))))))
def g_X5_reachTo (w : rf_w) (m : rf_m) (a1 : Int32) (a2 : Int32) (a3 : Int32) : Option (Int32 × rf_m) := rf_b (g_X5_hazeAt w m ((a2 * 24) + a3)) fun y0 m0 => (if y0 = ((-1)) then g_X5_reachTo_30 w a1 a3 32 m0 else rf_g (rf_in y0 200) (g_X5_reachTo_30 w a1 a3 (m0.1 10 (Int32.toNatClampNeg y0)) m0))
theorem s_X5_reachTo_30 {w : rf_w} {K : rf_K} {r : Int32 × rf_m} (C : rf_Ctx 5 cX5_reachTo 7 2 (rf_sh w) K) (hE : rf_End (some .int) K (rf_sh w) 0 0 (some (.int r.1)) (rf_MM w r.2)) (a1 : Int32) (a3 : Int32) (s0 : Int32) (m : rf_m) (hg : g_X5_reachTo_30 w a1 a3 s0 m = some r) : rf_V 7 (rf_sh w) K 0 0 30 ([(0, .ref 1), (1, .int a1), (3, .int a3)], [.int s0], rf_MM w m) := by
  unfold g_X5_reachTo_30 at hg
  obtain ⟨q0, hg⟩ := rf_g_some hg
  refine rf_seg C [(.istore 5, 2), (.aload 0, 1), (.invokeinterface 5 3, 3), (.iload 1, 1), (.baload, 1)] (pc' := 38) (S' := ([(5, .int s0), (0, .ref 1), (1, .int a1), (3, .int a3)], [.int (m.1 5 (Int32.toNatClampNeg a1))], rf_MM w m)) (by decide +kernel) rfl (rf_in_of q0) ?_
  refine rf_if_eq C 18 56 (by decide +kernel) (fun hc => ?_) (fun hc => ?_)
  · replace hg := (if_pos hc).symm.trans hg
    refine rf_seg C [(.iconst 0, 1), (.istore 6, 2), (.iload 6, 2)] (pc' := 61) (S' := ([(6, .int 0), (5, .int s0), (0, .ref 1), (1, .int a1), (3, .int a3)], [.int 0], rf_MM w m)) (by decide +kernel) rfl trivial ?_
    refine rf_if_eq C 10 71 (by decide +kernel) (fun hc => ?_) (fun hc => ?_)
    · clear hc
      refine rf_seg C [(.iload 5, 2)] (pc' := 73) (S' := ([(6, .int 0), (5, .int s0), (0, .ref 1), (1, .int a1), (3, .int a3)], [.int s0], rf_MM w m)) (by decide +kernel) rfl trivial ?_
      obtain rfl := Option.some.inj hg
      exact rf_iret C hE (by decide +kernel)
    · exact absurd hc (by decide)
  · replace hg := (if_neg hc).symm.trans hg
    refine rf_seg C [(.iload 3, 1), (.iconst 5, 1)] (pc' := 43) (S' := ([(5, .int s0), (0, .ref 1), (1, .int a1), (3, .int a3)], [.int 5, .int a3], rf_MM w m)) (by decide +kernel) rfl trivial ?_
    refine rf_icmp_lt C 9 52 (by decide +kernel) (fun hc => ?_) (fun hc => ?_)
    · replace hg := (if_pos hc).symm.trans hg
      refine rf_seg C [(.iconst 1, 1)] (pc' := 53) (S' := ([(5, .int s0), (0, .ref 1), (1, .int a1), (3, .int a3)], [.int 1], rf_MM w m)) (by decide +kernel) rfl trivial ?_
      refine rf_goto C 4 57 (by decide +kernel) ?_
      refine rf_seg C [(.istore 6, 2), (.iload 6, 2)] (pc' := 61) (S' := ([(6, .int 1), (5, .int s0), (0, .ref 1), (1, .int a1), (3, .int a3)], [.int 1], rf_MM w m)) (by decide +kernel) rfl trivial ?_
      refine rf_if_eq C 10 71 (by decide +kernel) (fun hc => ?_) (fun hc => ?_)
      · exact absurd hc (by decide)
      · clear hc
        refine rf_seg C [(.iconst 2, 1), (.iload 5, 2), (.imul, 1)] (pc' := 68) (S' := ([(6, .int 1), (5, .int s0), (0, .ref 1), (1, .int a1), (3, .int a3)], [.int (2 * s0)], rf_MM w m)) (by decide +kernel) rfl trivial ?_
        refine rf_goto C 5 73 (by decide +kernel) ?_
        obtain rfl := Option.some.inj hg
        exact rf_iret C hE (by decide +kernel)
    · replace hg := (if_neg hc).symm.trans hg
      refine rf_seg C [(.iload 3, 1), (.iconst 19, 2)] (pc' := 49) (S' := ([(5, .int s0), (0, .ref 1), (1, .int a1), (3, .int a3)], [.int 19, .int a3], rf_MM w m)) (by decide +kernel) rfl trivial ?_
      refine rf_icmp_le C 7 56 (by decide +kernel) (fun hc => ?_) (fun hc => ?_)
      · replace hg := (if_pos hc).symm.trans hg
        refine rf_seg C [(.iconst 0, 1), (.istore 6, 2), (.iload 6, 2)] (pc' := 61) (S' := ([(6, .int 0), (5, .int s0), (0, .ref 1), (1, .int a1), (3, .int a3)], [.int 0], rf_MM w m)) (by decide +kernel) rfl trivial ?_
        refine rf_if_eq C 10 71 (by decide +kernel) (fun hc => ?_) (fun hc => ?_)
        · clear hc
          refine rf_seg C [(.iload 5, 2)] (pc' := 73) (S' := ([(6, .int 0), (5, .int s0), (0, .ref 1), (1, .int a1), (3, .int a3)], [.int s0], rf_MM w m)) (by decide +kernel) rfl trivial ?_
          obtain rfl := Option.some.inj hg
          exact rf_iret C hE (by decide +kernel)
        · exact absurd hc (by decide)
      · replace hg := (if_neg hc).symm.trans hg
        refine rf_seg C [(.iconst 1, 1)] (pc' := 53) (S' := ([(5, .int s0), (0, .ref 1), (1, .int a1), (3, .int a3)], [.int 1], rf_MM w m)) (by decide +kernel) rfl trivial ?_
        refine rf_goto C 4 57 (by decide +kernel) ?_
        refine rf_seg C [(.istore 6, 2), (.iload 6, 2)] (pc' := 61) (S' := ([(6, .int 1), (5, .int s0), (0, .ref 1), (1, .int a1), (3, .int a3)], [.int 1], rf_MM w m)) (by decide +kernel) rfl trivial ?_
        refine rf_if_eq C 10 71 (by decide +kernel) (fun hc => ?_) (fun hc => ?_)
        · exact absurd hc (by decide)
        · clear hc
          refine rf_seg C [(.iconst 2, 1), (.iload 5, 2), (.imul, 1)] (pc' := 68) (S' := ([(6, .int 1), (5, .int s0), (0, .ref 1), (1, .int a1), (3, .int a3)], [.int (2 * s0)], rf_MM w m)) (by decide +kernel) rfl trivial ?_
          refine rf_goto C 5 73 (by decide +kernel) ?_
          obtain rfl := Option.some.inj hg
          exact rf_iret C hE (by decide +kernel)
theorem c_X5_reachTo {w : rf_w} {m : rf_m} {a1 : Int32} {a2 : Int32} {a3 : Int32} {r : Int32 × rf_m} (hg : g_X5_reachTo w m a1 a2 a3 = some r) : rf_Con j_X5_reachTo 2 (rf_sh w) [.ref 1, .int a1, .int a2, .int a3] (rf_MM w m) (some (.int r.1)) (rf_MM w r.2) := by
  refine rf_con j_X5_reachTo 2 ⟨by decide +kernel, rfl, Nat.le_of_ble_eq_true rfl⟩ (fun K C hE => ?_)
  unfold g_X5_reachTo at hg
  show rf_V 7 (rf_sh w) K 0 0 0 ([(0, .ref 1), (1, .int a1), (2, .int a2), (3, .int a3)], [], rf_MM w m)
  refine rf_seg C [(.aload 0, 1), (.iload 2, 1), (.iconst 24, 2), (.imul, 1), (.iload 3, 1), (.iadd, 1)] (pc' := 7) (S' := ([(0, .ref 1), (1, .int a1), (2, .int a2), (3, .int a3)], [.int ((a2 * 24) + a3), .ref 1], rf_MM w m)) (by decide +kernel) rfl trivial ?_
  obtain ⟨y0, m0, hc0, hg⟩ := rf_b_some hg
  refine rf_callv C rf_fit0 j_X5_hazeAt (ci := 5) (As := [.int ((a2 * 24) + a3)]) (rest := []) mw_X5_hazeAt (c_X5_hazeAt hc0) (by decide) rfl (by decide) lk_5_60 rfl rfl (Nat.le_of_ble_eq_true rfl) (by decide +kernel) ?_
  show rf_V 7 (rf_sh w) K 0 0 10 ([(0, .ref 1), (1, .int a1), (2, .int a2), (3, .int a3)], [.int y0], rf_MM w m0)
  refine rf_seg C [(.istore 4, 2), (.iload 4, 2), (.iconst (-1), 1)] (pc' := 15) (S' := ([(4, .int y0), (0, .ref 1), (1, .int a1), (2, .int a2), (3, .int a3)], [.int ((-1)), .int y0], rf_MM w m0)) (by decide +kernel) rfl trivial ?_
  refine rf_icmp_ne C 8 23 (by decide +kernel) (fun hc => ?_) (fun hc => ?_)
  · replace hg := (if_neg hc).symm.trans hg
    obtain ⟨q1, hg⟩ := rf_g_some hg
    refine rf_seg C [(.aload 0, 1), (.invokeinterface 5 11, 3), (.iload 4, 2), (.iaload, 1)] (pc' := 30) (S' := ([(4, .int y0), (0, .ref 1), (1, .int a1), (2, .int a2), (3, .int a3)], [.int (m0.1 10 (Int32.toNatClampNeg y0))], rf_MM w m0)) (by decide +kernel) rfl (rf_in_of q1) ?_
    refine rf_few [1, 2, 4] rfl ?_
    exact s_X5_reachTo_30 C hE a1 a3 (m0.1 10 (Int32.toNatClampNeg y0)) m0 hg
  · replace hg := (if_pos hc).symm.trans hg
    refine rf_seg C [(.iconst 32, 2)] (pc' := 20) (S' := ([(4, .int y0), (0, .ref 1), (1, .int a1), (2, .int a2), (3, .int a3)], [.int 32], rf_MM w m0)) (by decide +kernel) rfl trivial ?_
    refine rf_goto C 10 30 (by decide +kernel) ?_
    refine rf_few [1, 2, 4] rfl ?_
    exact s_X5_reachTo_30 C hE a1 a3 32 m0 hg
-- X5_topOf
abbrev j_X5_topOf : rf_J := (5, yX5_topOf, cX5_topOf, 3, (some .int))
theorem mw_X5_topOf : rf_mv j_X5_topOf (rf_R 5) 2 := ⟨⟨rf_mem 20 (by decide +kernel), rf_mem 20 (by decide +kernel), rf_mem 0 (by decide +kernel), rf_mem 20 (by decide +kernel)⟩, by decide +kernel, by decide⟩
def g_X5_topOf (w : rf_w) (m : rf_m) (a1 : Int32) (a2 : Int32) : Option (Int32 × rf_m) := rf_g (rf_in a1 30) (rf_g (rf_in (m.1 4 (Int32.toNatClampNeg a1)) 1024) (rf_b (g_X5_towerOn w m a1 a2) fun y2 m2 => some (((m.1 2 (Int32.toNatClampNeg (m.1 4 (Int32.toNatClampNeg a1)))) + 5) + y2, m2)))
theorem c_X5_topOf {w : rf_w} {m : rf_m} {a1 : Int32} {a2 : Int32} {r : Int32 × rf_m} (hg : g_X5_topOf w m a1 a2 = some r) : rf_Con j_X5_topOf 2 (rf_sh w) [.ref 1, .int a1, .int a2] (rf_MM w m) (some (.int r.1)) (rf_MM w r.2) := by
  refine rf_con j_X5_topOf 2 ⟨by decide +kernel, rfl, Nat.le_of_ble_eq_true rfl⟩ (fun K C hE => ?_)
  unfold g_X5_topOf at hg
  show rf_V 3 (rf_sh w) K 0 0 0 ([(0, .ref 1), (1, .int a1), (2, .int a2)], [], rf_MM w m)
  obtain ⟨q0, hg⟩ := rf_g_some hg
  obtain ⟨q1, hg⟩ := rf_g_some hg
  refine rf_seg C [(.aload 0, 1), (.invokeinterface 5 0, 3), (.aload 0, 1), (.invokeinterface 5 2, 3), (.iload 1, 1), (.iaload, 1), (.iaload, 1), (.iconst 5, 1), (.iadd, 1), (.aload 0, 1), (.iload 1, 1), (.iload 2, 1)] (pc' := 16) (S' := ([(0, .ref 1), (1, .int a1), (2, .int a2)], [.int a2, .int a1, .ref 1, .int ((m.1 2 (Int32.toNatClampNeg (m.1 4 (Int32.toNatClampNeg a1)))) + 5)], rf_MM w m)) (by decide +kernel) rfl (by exact ⟨(rf_in_of q0), (rf_in_of q1)⟩) ?_
  obtain ⟨y2, m2, hc2, hg⟩ := rf_b_some hg
  refine rf_callv C rf_fit0 j_X5_towerOn (ci := 5) (As := [.int a1, .int a2]) (rest := [.int ((m.1 2 (Int32.toNatClampNeg (m.1 4 (Int32.toNatClampNeg a1)))) + 5)]) mw_X5_towerOn (c_X5_towerOn hc2) (by decide) rfl (by decide) lk_5_64 rfl rfl (Nat.le_of_ble_eq_true rfl) (by decide +kernel) ?_
  show rf_V 3 (rf_sh w) K 0 0 19 ([(0, .ref 1), (1, .int a1), (2, .int a2)], [.int y2, .int ((m.1 2 (Int32.toNatClampNeg (m.1 4 (Int32.toNatClampNeg a1)))) + 5)], rf_MM w m2)
  refine rf_seg C [(.iadd, 1)] (pc' := 20) (S' := ([(0, .ref 1), (1, .int a1), (2, .int a2)], [.int (((m.1 2 (Int32.toNatClampNeg (m.1 4 (Int32.toNatClampNeg a1)))) + 5) + y2)], rf_MM w m2)) (by decide +kernel) rfl trivial ?_
  obtain rfl := Option.some.inj hg
  exact rf_iret C hE (by decide +kernel)
-- J9_floorDiv_7cf53
abbrev j_J9_floorDiv_7cf53 : rf_J := (22, yJ9_floorDiv_7cf53, cJ9_floorDiv_7cf53, 3, (some .int))
theorem mw_J9_floorDiv_7cf53 : rf_ms j_J9_floorDiv_7cf53 2 := ⟨⟨rf_mem 20 (by decide +kernel), rf_mem 20 (by decide +kernel), rf_mem 20 (by decide +kernel)⟩, by decide +kernel, by decide⟩
def g_J9_floorDiv_7cf53 (w : rf_w) (m : rf_m) (a0 : Int32) (a1 : Int32) : Option (Int32 × rf_m) := rf_g (rf_nz a1) ((if (0 : Int32) ≤ (a0 ^^^ a1) then some (a0 / a1, m) else (if ((a0 / a1) * a1) = a0 then some (a0 / a1, m) else some ((a0 / a1) - 1, m))))
theorem c_J9_floorDiv_7cf53 {w : rf_w} {m : rf_m} {a0 : Int32} {a1 : Int32} {r : Int32 × rf_m} (hg : g_J9_floorDiv_7cf53 w m a0 a1 = some r) : rf_Con j_J9_floorDiv_7cf53 1 (rf_sh w) [.int a0, .int a1] (rf_MM w m) (some (.int r.1)) (rf_MM w r.2) := by
  refine rf_con j_J9_floorDiv_7cf53 1 ⟨by decide +kernel, rfl, Nat.le_of_ble_eq_true rfl⟩ (fun K C hE => ?_)
  unfold g_J9_floorDiv_7cf53 at hg
  show rf_V 3 (rf_sh w) K 0 0 0 ([(0, .int a0), (1, .int a1)], [], rf_MM w m)
  obtain ⟨q0, hg⟩ := rf_g_some hg
  refine rf_seg C [(.iload 0, 1), (.iload 1, 1), (.idiv, 1), (.istore 2, 1), (.iload 0, 1), (.iload 1, 1), (.ixor, 1)] (pc' := 7) (S' := ([(2, .int (a0 / a1)), (0, .int a0), (1, .int a1)], [.int (a0 ^^^ a1)], rf_MM w m)) (by decide +kernel) rfl (rf_nz_of q0) ?_
  refine rf_if_ge C 14 21 (by decide +kernel) (fun hc => ?_) (fun hc => ?_)
  · replace hg := (if_pos hc).symm.trans hg
    refine rf_seg C [(.iload 2, 1)] (pc' := 22) (S' := ([(2, .int (a0 / a1)), (0, .int a0), (1, .int a1)], [.int (a0 / a1)], rf_MM w m)) (by decide +kernel) rfl trivial ?_
    obtain rfl := Option.some.inj hg
    exact rf_iret C hE (by decide +kernel)
  · replace hg := (if_neg hc).symm.trans hg
    refine rf_seg C [(.iload 2, 1), (.iload 1, 1), (.imul, 1), (.iload 0, 1)] (pc' := 14) (S' := ([(2, .int (a0 / a1)), (0, .int a0), (1, .int a1)], [.int a0, .int ((a0 / a1) * a1)], rf_MM w m)) (by decide +kernel) rfl trivial ?_
    refine rf_icmp_eq C 7 21 (by decide +kernel) (fun hc => ?_) (fun hc => ?_)
    · replace hg := (if_pos hc).symm.trans hg
      refine rf_seg C [(.iload 2, 1)] (pc' := 22) (S' := ([(2, .int (a0 / a1)), (0, .int a0), (1, .int a1)], [.int (a0 / a1)], rf_MM w m)) (by decide +kernel) rfl trivial ?_
      obtain rfl := Option.some.inj hg
      exact rf_iret C hE (by decide +kernel)
    · replace hg := (if_neg hc).symm.trans hg
      refine rf_seg C [(.iload 2, 1), (.iconst 1, 1), (.isub, 1)] (pc' := 20) (S' := ([(2, .int (a0 / a1)), (0, .int a0), (1, .int a1)], [.int ((a0 / a1) - 1)], rf_MM w m)) (by decide +kernel) rfl trivial ?_
      obtain rfl := Option.some.inj hg
      exact rf_iret C hE (by decide +kernel)
-- X5_lookOver
abbrev j_X5_lookOver : rf_J := (5, yX5_lookOver, cX5_lookOver, 15, (some .int))
theorem mw_X5_lookOver : rf_mv j_X5_lookOver (rf_R 5) 4 := ⟨⟨rf_mem 19 (by decide +kernel), rf_mem 19 (by decide +kernel), rf_mem 0 (by decide +kernel), rf_mem 19 (by decide +kernel)⟩, by decide +kernel, by decide⟩
def g_X5_lookOver_99_b (w : rf_w) (rec99 : Int32 → Int32 → Int32 → Int32 → Int32 → Int32 → Int32 → Int32 → rf_m → Option (Int32 × rf_m)) (a5 : Int32) (a6 : Int32) (a7 : Int32) (a8 : Int32) (a9 : Int32) (a10 : Int32) (a11 : Int32) (a12 : Int32) (m : rf_m) : Option (Int32 × rf_m) := (if a9 ≤ a12 then some (0, m) else rf_b (g_J9_floorDiv_7cf53 w m (((2 * a12) * a8) + a9) (2 * a9)) fun y0 m0 => rf_b (g_J9_floorDiv_7cf53 w m0 (((2 * a12) * a7) + a9) (2 * a9)) fun y1 m1 => rf_vi ((((a6 + y0) * 32) + a5) + y1) fun x2 => rf_g (rf_nz a9) (rf_vi (((a10 * (a9 - a12)) + (a11 * a12)) / a9) fun x4 => rf_g (rf_in x2 1024) (rf_g (rf_in x2 1024) ((if (((m1.1 2 (Int32.toNatClampNeg x2)) + (m1.1 3 (Int32.toNatClampNeg x2))) + ((a12 * (a9 - a12)) / 4)) < x4 then rec99 a5 a6 a7 a8 a9 a10 a11 (a12 + 1) m1 else some (1 + a12, m1))))))
def g_X5_lookOver_99 (w : rf_w) : Nat → Int32 → Int32 → Int32 → Int32 → Int32 → Int32 → Int32 → Int32 → rf_m → Option (Int32 × rf_m)
  | 0, _, _, _, _, _, _, _, _, _ => none
  | n + 1, a5, a6, a7, a8, a9, a10, a11, a12, m => g_X5_lookOver_99_b w (g_X5_lookOver_99 w n) a5 a6 a7 a8 a9 a10 a11 a12 m
def g_X5_lookOver (w : rf_w) (m : rf_m) (a1 : Int32) (a2 : Int32) (a3 : Int32) (a4 : Int32) : Option (Int32 × rf_m) := rf_g (rf_in a1 30) (rf_vi ((m.1 4 (Int32.toNatClampNeg a1)) - (m.1 4 (Int32.toNatClampNeg a1)) / 32 * 32) fun x1 => rf_g (rf_in a1 30) (rf_vi ((m.1 4 (Int32.toNatClampNeg a1)) / 32) fun x3 => rf_g (rf_in a2 30) (rf_vi (((m.1 4 (Int32.toNatClampNeg a2)) - (m.1 4 (Int32.toNatClampNeg a2)) / 32 * 32) - x1) fun x5 => rf_g (rf_in a2 30) (rf_vi (((m.1 4 (Int32.toNatClampNeg a2)) / 32) - x3) fun x7 => rf_b (g_abs w m x5) fun y8 m8 => rf_b (g_abs w m8 x7) fun y9 m9 => rf_b (g_max w m9 y8 y9) fun y10 m10 => rf_b (g_X5_reachTo w m10 a2 a3 a4) fun y11 m11 => (if y10 ≤ y11 then rf_b (g_X5_topOf w m11 a1 a3) fun y12 m12 => rf_b (g_X5_topOf w m12 a2 a3) fun y13 m13 => g_X5_lookOver_99 w rf_fuel x1 x3 x5 x7 y10 y12 y13 1 m13 else some (1, m11))))))
theorem s_X5_lookOver_99_b {w : rf_w} {K : rf_K} {r : Int32 × rf_m} (C : rf_Ctx 5 cX5_lookOver 15 3 (rf_sh w) K) (hE : rf_End (some .int) K (rf_sh w) 0 0 (some (.int r.1)) (rf_MM w r.2)) {rec99 : Int32 → Int32 → Int32 → Int32 → Int32 → Int32 → Int32 → Int32 → rf_m → Option (Int32 × rf_m)} (hr99 : ∀ (a5 : Int32) (a6 : Int32) (a7 : Int32) (a8 : Int32) (a9 : Int32) (a10 : Int32) (a11 : Int32) (a12 : Int32) (m : rf_m), rec99 a5 a6 a7 a8 a9 a10 a11 a12 m = some r → rf_V 15 (rf_sh w) K 0 0 99 ([(0, .ref 1), (5, .int a5), (6, .int a6), (7, .int a7), (8, .int a8), (9, .int a9), (10, .int a10), (11, .int a11), (12, .int a12)], [], rf_MM w m)) (a5 : Int32) (a6 : Int32) (a7 : Int32) (a8 : Int32) (a9 : Int32) (a10 : Int32) (a11 : Int32) (a12 : Int32) (m : rf_m) (hg : g_X5_lookOver_99_b w rec99 a5 a6 a7 a8 a9 a10 a11 a12 m = some r) : rf_V 15 (rf_sh w) K 0 0 99 ([(0, .ref 1), (5, .int a5), (6, .int a6), (7, .int a7), (8, .int a8), (9, .int a9), (10, .int a10), (11, .int a11), (12, .int a12)], [], rf_MM w m) := by
  unfold g_X5_lookOver_99_b at hg
  refine rf_seg C [(.iload 12, 2), (.iload 9, 2)] (pc' := 103) (S' := ([(0, .ref 1), (5, .int a5), (6, .int a6), (7, .int a7), (8, .int a8), (9, .int a9), (10, .int a10), (11, .int a11), (12, .int a12)], [.int a9, .int a12], rf_MM w m)) (by decide +kernel) rfl trivial ?_
  refine rf_icmp_ge C 110 213 (by decide +kernel) (fun hc => ?_) (fun hc => ?_)
  · replace hg := (if_pos hc).symm.trans hg
    refine rf_seg C [(.iconst 0, 1)] (pc' := 214) (S' := ([(0, .ref 1), (5, .int a5), (6, .int a6), (7, .int a7), (8, .int a8), (9, .int a9), (10, .int a10), (11, .int a11), (12, .int a12)], [.int 0], rf_MM w m)) (by decide +kernel) rfl trivial ?_
    obtain rfl := Option.some.inj hg
    exact rf_iret C hE (by decide +kernel)
  · replace hg := (if_neg hc).symm.trans hg
    refine rf_seg C [(.iload 6, 2), (.iconst 2, 1), (.iload 12, 2), (.imul, 1), (.iload 8, 2), (.imul, 1), (.iload 9, 2), (.iadd, 1), (.iconst 2, 1), (.iload 9, 2), (.imul, 1)] (pc' := 122) (S' := ([(0, .ref 1), (5, .int a5), (6, .int a6), (7, .int a7), (8, .int a8), (9, .int a9), (10, .int a10), (11, .int a11), (12, .int a12)], [.int (2 * a9), .int (((2 * a12) * a8) + a9), .int a6], rf_MM w m)) (by decide +kernel) rfl trivial ?_
    obtain ⟨y0, m0, hc0, hg⟩ := rf_b_some hg
    refine rf_calls C rf_fit0 j_J9_floorDiv_7cf53 (As := [.int (((2 * a12) * a8) + a9), .int (2 * a9)]) (rest := [.int a6]) mw_J9_floorDiv_7cf53 (c_J9_floorDiv_7cf53 hc0) (by decide) lk_5_83 rfl rfl (Nat.le_of_ble_eq_true rfl) (by decide +kernel) ?_
    show rf_V 15 (rf_sh w) K 0 0 125 ([(0, .ref 1), (5, .int a5), (6, .int a6), (7, .int a7), (8, .int a8), (9, .int a9), (10, .int a10), (11, .int a11), (12, .int a12)], [.int y0, .int a6], rf_MM w m0)
    refine rf_seg C [(.iadd, 1), (.iconst 32, 2), (.imul, 1), (.iload 5, 2), (.iadd, 1), (.iconst 2, 1), (.iload 12, 2), (.imul, 1), (.iload 7, 2), (.imul, 1), (.iload 9, 2), (.iadd, 1), (.iconst 2, 1), (.iload 9, 2), (.imul, 1)] (pc' := 146) (S' := ([(0, .ref 1), (5, .int a5), (6, .int a6), (7, .int a7), (8, .int a8), (9, .int a9), (10, .int a10), (11, .int a11), (12, .int a12)], [.int (2 * a9), .int (((2 * a12) * a7) + a9), .int (((a6 + y0) * 32) + a5)], rf_MM w m0)) (by decide +kernel) rfl trivial ?_
    obtain ⟨y1, m1, hc1, hg⟩ := rf_b_some hg
    refine rf_calls C rf_fit0 j_J9_floorDiv_7cf53 (As := [.int (((2 * a12) * a7) + a9), .int (2 * a9)]) (rest := [.int (((a6 + y0) * 32) + a5)]) mw_J9_floorDiv_7cf53 (c_J9_floorDiv_7cf53 hc1) (by decide) lk_5_83 rfl rfl (Nat.le_of_ble_eq_true rfl) (by decide +kernel) ?_
    show rf_V 15 (rf_sh w) K 0 0 149 ([(0, .ref 1), (5, .int a5), (6, .int a6), (7, .int a7), (8, .int a8), (9, .int a9), (10, .int a10), (11, .int a11), (12, .int a12)], [.int y1, .int (((a6 + y0) * 32) + a5)], rf_MM w m1)
    refine rf_seg C [(.iadd, 1)] (pc' := 150) (S' := ([(0, .ref 1), (5, .int a5), (6, .int a6), (7, .int a7), (8, .int a8), (9, .int a9), (10, .int a10), (11, .int a11), (12, .int a12)], [.int ((((a6 + y0) * 32) + a5) + y1)], rf_MM w m1)) (by decide +kernel) rfl trivial ?_
    obtain ⟨x2, hx2, hg⟩ := rf_vi_some hg
    refine rf_vi_top hx2 ?_
    obtain ⟨q3, hg⟩ := rf_g_some hg
    refine rf_seg C [(.istore 13, 2), (.iload 10, 2), (.iload 9, 2), (.iload 12, 2), (.isub, 1), (.imul, 1), (.iload 11, 2), (.iload 12, 2), (.imul, 1), (.iadd, 1), (.iload 9, 2), (.idiv, 1)] (pc' := 169) (S' := ([(13, .int x2), (0, .ref 1), (5, .int a5), (6, .int a6), (7, .int a7), (8, .int a8), (9, .int a9), (10, .int a10), (11, .int a11), (12, .int a12)], [.int (((a10 * (a9 - a12)) + (a11 * a12)) / a9)], rf_MM w m1)) (by decide +kernel) rfl (rf_nz_of q3) ?_
    obtain ⟨x4, hx4, hg⟩ := rf_vi_some hg
    refine rf_vi_top hx4 ?_
    obtain ⟨q5, hg⟩ := rf_g_some hg
    obtain ⟨q6, hg⟩ := rf_g_some hg
    refine rf_seg C [(.istore 14, 2), (.aload 0, 1), (.invokeinterface 5 0, 3), (.iload 13, 2), (.iaload, 1), (.aload 0, 1), (.invokeinterface 5 1, 3), (.iload 13, 2), (.iaload, 1), (.iadd, 1), (.iload 12, 2), (.iload 9, 2), (.iload 12, 2), (.isub, 1), (.imul, 1), (.iconst 4, 1), (.idiv, 1), (.iadd, 1), (.iload 14, 2)] (pc' := 199) (S' := ([(14, .int x4), (13, .int x2), (0, .ref 1), (5, .int a5), (6, .int a6), (7, .int a7), (8, .int a8), (9, .int a9), (10, .int a10), (11, .int a11), (12, .int a12)], [.int x4, .int (((m1.1 2 (Int32.toNatClampNeg x2)) + (m1.1 3 (Int32.toNatClampNeg x2))) + ((a12 * (a9 - a12)) / 4))], rf_MM w m1)) (by decide +kernel) rfl (by exact ⟨(rf_in_of q5), (rf_in_of q6), (rf_nz_of (by decide))⟩) ?_
    refine rf_icmp_lt C 8 207 (by decide +kernel) (fun hc => ?_) (fun hc => ?_)
    · replace hg := (if_pos hc).symm.trans hg
      refine rf_seg C [(.iinc 12 1, 3)] (pc' := 210) (S' := ([(12, .int (a12 + 1)), (14, .int x4), (13, .int x2), (0, .ref 1), (5, .int a5), (6, .int a6), (7, .int a7), (8, .int a8), (9, .int a9), (10, .int a10), (11, .int a11)], [], rf_MM w m1)) (by decide +kernel) rfl trivial ?_
      refine rf_goto C (-111) 99 (by decide +kernel) ?_
      refine rf_few [3, 4, 5, 6, 7, 8, 9, 10, 0] rfl ?_
      exact hr99 a5 a6 a7 a8 a9 a10 a11 (a12 + 1) m1 hg
    · replace hg := (if_neg hc).symm.trans hg
      refine rf_seg C [(.iconst 1, 1), (.iload 12, 2), (.iadd, 1)] (pc' := 206) (S' := ([(14, .int x4), (13, .int x2), (0, .ref 1), (5, .int a5), (6, .int a6), (7, .int a7), (8, .int a8), (9, .int a9), (10, .int a10), (11, .int a11), (12, .int a12)], [.int (1 + a12)], rf_MM w m1)) (by decide +kernel) rfl trivial ?_
      obtain rfl := Option.some.inj hg
      exact rf_iret C hE (by decide +kernel)
theorem s_X5_lookOver_99 {w : rf_w} {K : rf_K} {r : Int32 × rf_m} (C : rf_Ctx 5 cX5_lookOver 15 3 (rf_sh w) K) (hE : rf_End (some .int) K (rf_sh w) 0 0 (some (.int r.1)) (rf_MM w r.2)) (n : Nat) : ∀ (a5 : Int32) (a6 : Int32) (a7 : Int32) (a8 : Int32) (a9 : Int32) (a10 : Int32) (a11 : Int32) (a12 : Int32) (m : rf_m), g_X5_lookOver_99 w n a5 a6 a7 a8 a9 a10 a11 a12 m = some r → rf_V 15 (rf_sh w) K 0 0 99 ([(0, .ref 1), (5, .int a5), (6, .int a6), (7, .int a7), (8, .int a8), (9, .int a9), (10, .int a10), (11, .int a11), (12, .int a12)], [], rf_MM w m) := by
  induction n with
  | zero => intro a5 a6 a7 a8 a9 a10 a11 a12 m hg; cases hg
  | succ n ih => intro a5 a6 a7 a8 a9 a10 a11 a12 m hg; exact s_X5_lookOver_99_b C hE ih a5 a6 a7 a8 a9 a10 a11 a12 m hg
theorem c_X5_lookOver {w : rf_w} {m : rf_m} {a1 : Int32} {a2 : Int32} {a3 : Int32} {a4 : Int32} {r : Int32 × rf_m} (hg : g_X5_lookOver w m a1 a2 a3 a4 = some r) : rf_Con j_X5_lookOver 3 (rf_sh w) [.ref 1, .int a1, .int a2, .int a3, .int a4] (rf_MM w m) (some (.int r.1)) (rf_MM w r.2) := by
  refine rf_con j_X5_lookOver 3 ⟨by decide +kernel, rfl, Nat.le_of_ble_eq_true rfl⟩ (fun K C hE => ?_)
  unfold g_X5_lookOver at hg
  show rf_V 15 (rf_sh w) K 0 0 0 ([(0, .ref 1), (1, .int a1), (2, .int a2), (3, .int a3), (4, .int a4)], [], rf_MM w m)
  obtain ⟨q0, hg⟩ := rf_g_some hg
  refine rf_seg C [(.aload 0, 1), (.invokeinterface 5 2, 3), (.iload 1, 1), (.iaload, 1), (.iconst 32, 2), (.irem, 1)] (pc' := 9) (S' := ([(0, .ref 1), (1, .int a1), (2, .int a2), (3, .int a3), (4, .int a4)], [.int ((m.1 4 (Int32.toNatClampNeg a1)) - (m.1 4 (Int32.toNatClampNeg a1)) / 32 * 32)], rf_MM w m)) (by decide +kernel) rfl (by exact ⟨(rf_in_of q0), (rf_nz_of (by decide))⟩) ?_
  obtain ⟨x1, hx1, hg⟩ := rf_vi_some hg
  refine rf_vi_top hx1 ?_
  obtain ⟨q2, hg⟩ := rf_g_some hg
  refine rf_seg C [(.istore 5, 2), (.aload 0, 1), (.invokeinterface 5 2, 3), (.iload 1, 1), (.iaload, 1), (.iconst 32, 2), (.idiv, 1)] (pc' := 20) (S' := ([(5, .int x1), (0, .ref 1), (1, .int a1), (2, .int a2), (3, .int a3), (4, .int a4)], [.int ((m.1 4 (Int32.toNatClampNeg a1)) / 32)], rf_MM w m)) (by decide +kernel) rfl (by exact ⟨(rf_in_of q2), (rf_nz_of (by decide))⟩) ?_
  obtain ⟨x3, hx3, hg⟩ := rf_vi_some hg
  refine rf_vi_top hx3 ?_
  obtain ⟨q4, hg⟩ := rf_g_some hg
  refine rf_seg C [(.istore 6, 2), (.aload 0, 1), (.invokeinterface 5 2, 3), (.iload 2, 1), (.iaload, 1), (.iconst 32, 2), (.irem, 1), (.iload 5, 2), (.isub, 1)] (pc' := 34) (S' := ([(6, .int x3), (5, .int x1), (0, .ref 1), (1, .int a1), (2, .int a2), (3, .int a3), (4, .int a4)], [.int (((m.1 4 (Int32.toNatClampNeg a2)) - (m.1 4 (Int32.toNatClampNeg a2)) / 32 * 32) - x1)], rf_MM w m)) (by decide +kernel) rfl (by exact ⟨(rf_in_of q4), (rf_nz_of (by decide))⟩) ?_
  obtain ⟨x5, hx5, hg⟩ := rf_vi_some hg
  refine rf_vi_top hx5 ?_
  obtain ⟨q6, hg⟩ := rf_g_some hg
  refine rf_seg C [(.istore 7, 2), (.aload 0, 1), (.invokeinterface 5 2, 3), (.iload 2, 1), (.iaload, 1), (.iconst 32, 2), (.idiv, 1), (.iload 6, 2), (.isub, 1)] (pc' := 48) (S' := ([(7, .int x5), (6, .int x3), (5, .int x1), (0, .ref 1), (1, .int a1), (2, .int a2), (3, .int a3), (4, .int a4)], [.int (((m.1 4 (Int32.toNatClampNeg a2)) / 32) - x3)], rf_MM w m)) (by decide +kernel) rfl (by exact ⟨(rf_in_of q6), (rf_nz_of (by decide))⟩) ?_
  obtain ⟨x7, hx7, hg⟩ := rf_vi_some hg
  refine rf_vi_top hx7 ?_
  refine rf_seg C [(.istore 8, 2), (.iload 7, 2)] (pc' := 52) (S' := ([(8, .int x7), (7, .int x5), (6, .int x3), (5, .int x1), (0, .ref 1), (1, .int a1), (2, .int a2), (3, .int a3), (4, .int a4)], [.int x5], rf_MM w m)) (by decide +kernel) rfl trivial ?_
  obtain ⟨y8, m8, hc8, hg⟩ := rf_b_some hg
  refine rf_calls C rf_fit0 j_abs (As := [.int x5]) (rest := []) mw_abs (c_abs hc8) (by decide) lk_5_68 rfl rfl (Nat.le_of_ble_eq_true rfl) (by decide +kernel) ?_
  show rf_V 15 (rf_sh w) K 0 0 55 ([(8, .int x7), (7, .int x5), (6, .int x3), (5, .int x1), (0, .ref 1), (1, .int a1), (2, .int a2), (3, .int a3), (4, .int a4)], [.int y8], rf_MM w m8)
  refine rf_seg C [(.iload 8, 2)] (pc' := 57) (S' := ([(8, .int x7), (7, .int x5), (6, .int x3), (5, .int x1), (0, .ref 1), (1, .int a1), (2, .int a2), (3, .int a3), (4, .int a4)], [.int x7, .int y8], rf_MM w m8)) (by decide +kernel) rfl trivial ?_
  obtain ⟨y9, m9, hc9, hg⟩ := rf_b_some hg
  refine rf_calls C rf_fit0 j_abs (As := [.int x7]) (rest := [.int y8]) mw_abs (c_abs hc9) (by decide) lk_5_68 rfl rfl (Nat.le_of_ble_eq_true rfl) (by decide +kernel) ?_
  show rf_V 15 (rf_sh w) K 0 0 60 ([(8, .int x7), (7, .int x5), (6, .int x3), (5, .int x1), (0, .ref 1), (1, .int a1), (2, .int a2), (3, .int a3), (4, .int a4)], [.int y9, .int y8], rf_MM w m9)
  obtain ⟨y10, m10, hc10, hg⟩ := rf_b_some hg
  refine rf_calls C rf_fit0 j_max (As := [.int y8, .int y9]) (rest := []) mw_max (c_max hc10) (by decide) lk_5_73 rfl rfl (Nat.le_of_ble_eq_true rfl) (by decide +kernel) ?_
  show rf_V 15 (rf_sh w) K 0 0 63 ([(8, .int x7), (7, .int x5), (6, .int x3), (5, .int x1), (0, .ref 1), (1, .int a1), (2, .int a2), (3, .int a3), (4, .int a4)], [.int y10], rf_MM w m10)
  refine rf_seg C [(.istore 9, 2), (.iload 9, 2), (.aload 0, 1), (.iload 2, 1), (.iload 3, 1), (.iload 4, 2)] (pc' := 72) (S' := ([(9, .int y10), (8, .int x7), (7, .int x5), (6, .int x3), (5, .int x1), (0, .ref 1), (1, .int a1), (2, .int a2), (3, .int a3), (4, .int a4)], [.int a4, .int a3, .int a2, .ref 1, .int y10], rf_MM w m10)) (by decide +kernel) rfl trivial ?_
  obtain ⟨y11, m11, hc11, hg⟩ := rf_b_some hg
  refine rf_callv C rf_fit0 j_X5_reachTo (ci := 5) (As := [.int a2, .int a3, .int a4]) (rest := [.int y10]) mw_X5_reachTo (c_X5_reachTo hc11) (by decide) rfl (by decide) lk_5_76 rfl rfl (Nat.le_of_ble_eq_true rfl) (by decide +kernel) ?_
  show rf_V 15 (rf_sh w) K 0 0 75 ([(9, .int y10), (8, .int x7), (7, .int x5), (6, .int x3), (5, .int x1), (0, .ref 1), (1, .int a1), (2, .int a2), (3, .int a3), (4, .int a4)], [.int y11, .int y10], rf_MM w m11)
  refine rf_icmp_le C 5 80 (by decide +kernel) (fun hc => ?_) (fun hc => ?_)
  · replace hg := (if_pos hc).symm.trans hg
    refine rf_seg C [(.aload 0, 1), (.iload 1, 1), (.iload 3, 1)] (pc' := 83) (S' := ([(9, .int y10), (8, .int x7), (7, .int x5), (6, .int x3), (5, .int x1), (0, .ref 1), (1, .int a1), (2, .int a2), (3, .int a3), (4, .int a4)], [.int a3, .int a1, .ref 1], rf_MM w m11)) (by decide +kernel) rfl trivial ?_
    obtain ⟨y12, m12, hc12, hg⟩ := rf_b_some hg
    refine rf_callv C rf_fit0 j_X5_topOf (ci := 5) (As := [.int a1, .int a3]) (rest := []) mw_X5_topOf (c_X5_topOf hc12) (by decide) rfl (by decide) lk_5_80 rfl rfl (Nat.le_of_ble_eq_true rfl) (by decide +kernel) ?_
    show rf_V 15 (rf_sh w) K 0 0 86 ([(9, .int y10), (8, .int x7), (7, .int x5), (6, .int x3), (5, .int x1), (0, .ref 1), (1, .int a1), (2, .int a2), (3, .int a3), (4, .int a4)], [.int y12], rf_MM w m12)
    refine rf_seg C [(.istore 10, 2), (.aload 0, 1), (.iload 2, 1), (.iload 3, 1)] (pc' := 91) (S' := ([(10, .int y12), (9, .int y10), (8, .int x7), (7, .int x5), (6, .int x3), (5, .int x1), (0, .ref 1), (1, .int a1), (2, .int a2), (3, .int a3), (4, .int a4)], [.int a3, .int a2, .ref 1], rf_MM w m12)) (by decide +kernel) rfl trivial ?_
    obtain ⟨y13, m13, hc13, hg⟩ := rf_b_some hg
    refine rf_callv C rf_fit0 j_X5_topOf (ci := 5) (As := [.int a2, .int a3]) (rest := []) mw_X5_topOf (c_X5_topOf hc13) (by decide) rfl (by decide) lk_5_80 rfl rfl (Nat.le_of_ble_eq_true rfl) (by decide +kernel) ?_
    show rf_V 15 (rf_sh w) K 0 0 94 ([(10, .int y12), (9, .int y10), (8, .int x7), (7, .int x5), (6, .int x3), (5, .int x1), (0, .ref 1), (1, .int a1), (2, .int a2), (3, .int a3), (4, .int a4)], [.int y13], rf_MM w m13)
    refine rf_seg C [(.istore 11, 2), (.iconst 1, 1), (.istore 12, 2)] (pc' := 99) (S' := ([(12, .int 1), (11, .int y13), (10, .int y12), (9, .int y10), (8, .int x7), (7, .int x5), (6, .int x3), (5, .int x1), (0, .ref 1), (1, .int a1), (2, .int a2), (3, .int a3), (4, .int a4)], [], rf_MM w m13)) (by decide +kernel) rfl trivial ?_
    refine rf_few [8, 7, 6, 5, 4, 3, 2, 1, 0] rfl ?_
    exact s_X5_lookOver_99 C hE rf_fuel x1 x3 x5 x7 y10 y12 y13 1 m13 hg
  · replace hg := (if_neg hc).symm.trans hg
    refine rf_seg C [(.iconst 1, 1)] (pc' := 79) (S' := ([(9, .int y10), (8, .int x7), (7, .int x5), (6, .int x3), (5, .int x1), (0, .ref 1), (1, .int a1), (2, .int a2), (3, .int a3), (4, .int a4)], [.int 1], rf_MM w m11)) (by decide +kernel) rfl trivial ?_
    obtain rfl := Option.some.inj hg
    exact rf_iret C hE (by decide +kernel)
-- X5_addMass
abbrev j_X5_addMass : rf_J := (5, yX5_addMass, cX5_addMass, 3, (some .int))
theorem mw_X5_addMass : rf_mv j_X5_addMass (rf_R 5) 2 := ⟨⟨rf_mem 94 (by decide +kernel), rf_mem 94 (by decide +kernel), rf_mem 0 (by decide +kernel), rf_mem 94 (by decide +kernel)⟩, by decide +kernel, by decide⟩
def g_X5_addMass (w : rf_w) (m : rf_m) (a1 : Int32) (a2 : Int32) : Option (Int32 × rf_m) := rf_g (rf_in (m.1 1 5) 12) (rf_g (rf_in ((rf_i m 11 (Int32.toNatClampNeg (m.1 1 5)) a1).1 1 5) 12) (some (((rf_i (rf_i (rf_i m 11 (Int32.toNatClampNeg (m.1 1 5)) a1) 12 (Int32.toNatClampNeg ((rf_i m 11 (Int32.toNatClampNeg (m.1 1 5)) a1).1 1 5)) a2) 1 5 (((rf_i (rf_i m 11 (Int32.toNatClampNeg (m.1 1 5)) a1) 12 (Int32.toNatClampNeg ((rf_i m 11 (Int32.toNatClampNeg (m.1 1 5)) a1).1 1 5)) a2).1 1 5) + 1)).1 1 5) - 1, rf_i (rf_i (rf_i m 11 (Int32.toNatClampNeg (m.1 1 5)) a1) 12 (Int32.toNatClampNeg ((rf_i m 11 (Int32.toNatClampNeg (m.1 1 5)) a1).1 1 5)) a2) 1 5 (((rf_i (rf_i m 11 (Int32.toNatClampNeg (m.1 1 5)) a1) 12 (Int32.toNatClampNeg ((rf_i m 11 (Int32.toNatClampNeg (m.1 1 5)) a1).1 1 5)) a2).1 1 5) + 1))))
theorem c_X5_addMass {w : rf_w} {m : rf_m} {a1 : Int32} {a2 : Int32} {r : Int32 × rf_m} (hg : g_X5_addMass w m a1 a2 = some r) : rf_Con j_X5_addMass 1 (rf_sh w) [.ref 1, .int a1, .int a2] (rf_MM w m) (some (.int r.1)) (rf_MM w r.2) := by
  refine rf_con j_X5_addMass 1 ⟨by decide +kernel, rfl, Nat.le_of_ble_eq_true rfl⟩ (fun K C hE => ?_)
  unfold g_X5_addMass at hg
  show rf_V 3 (rf_sh w) K 0 0 0 ([(0, .ref 1), (1, .int a1), (2, .int a2)], [], rf_MM w m)
  obtain ⟨q0, hg⟩ := rf_g_some hg
  obtain ⟨q1, hg⟩ := rf_g_some hg
  refine rf_seg C [(.aload 0, 1), (.invokeinterface 5 13, 3), (.aload 0, 1), (.invokeinterface 5 5, 3), (.iload 1, 1), (.iastore, 1), (.aload 0, 1), (.invokeinterface 5 14, 3), (.aload 0, 1), (.invokeinterface 5 5, 3), (.iload 2, 1), (.iastore, 1), (.aload 0, 1), (.dup, 1), (.invokeinterface 5 5, 3), (.iconst 1, 1), (.iadd, 1), (.multianewarray 5 5, 3), (.aload 0, 1), (.invokeinterface 5 5, 3), (.iconst 1, 1), (.isub, 1)] (pc' := 36) (S' := ([(0, .ref 1), (1, .int a1), (2, .int a2)], [.int (((rf_i (rf_i (rf_i m 11 (Int32.toNatClampNeg (m.1 1 5)) a1) 12 (Int32.toNatClampNeg ((rf_i m 11 (Int32.toNatClampNeg (m.1 1 5)) a1).1 1 5)) a2) 1 5 (((rf_i (rf_i m 11 (Int32.toNatClampNeg (m.1 1 5)) a1) 12 (Int32.toNatClampNeg ((rf_i m 11 (Int32.toNatClampNeg (m.1 1 5)) a1).1 1 5)) a2).1 1 5) + 1)).1 1 5) - 1)], rf_MM w (rf_i (rf_i (rf_i m 11 (Int32.toNatClampNeg (m.1 1 5)) a1) 12 (Int32.toNatClampNeg ((rf_i m 11 (Int32.toNatClampNeg (m.1 1 5)) a1).1 1 5)) a2) 1 5 (((rf_i (rf_i m 11 (Int32.toNatClampNeg (m.1 1 5)) a1) 12 (Int32.toNatClampNeg ((rf_i m 11 (Int32.toNatClampNeg (m.1 1 5)) a1).1 1 5)) a2).1 1 5) + 1)))) (by decide +kernel) rfl (by exact ⟨(rf_in_of q0), (rf_in_of q1)⟩) ?_
  obtain rfl := Option.some.inj hg
  exact rf_iret C hE (by decide +kernel)
-- X5_pullAt
abbrev j_X5_pullAt : rf_J := (5, yX5_pullAt, cX5_pullAt, 8, (some .int))
theorem mw_X5_pullAt : rf_mv j_X5_pullAt (rf_R 5) 2 := ⟨⟨rf_mem 95 (by decide +kernel), rf_mem 95 (by decide +kernel), rf_mem 0 (by decide +kernel), rf_mem 95 (by decide +kernel)⟩, by decide +kernel, by decide⟩
def g_X5_pullAt_101 (w : rf_w) (rec5 : Int32 → Int32 → Int32 → Int32 → rf_m → Option (Int32 × rf_m)) (a1 : Int32) (a2 : Int32) (a3 : Int32) (a4 : Int32) (m : rf_m) : Option (Int32 × rf_m) := rec5 a1 a2 a3 (a4 + 1) m
def g_X5_pullAt_95 (w : rf_w) (rec5 : Int32 → Int32 → Int32 → Int32 → rf_m → Option (Int32 × rf_m)) (a1 : Int32) (a2 : Int32) (a4 : Int32) (a7 : Int32) (s0 : Int32) (s1 : Int32) (s2 : Int32) (m : rf_m) : Option (Int32 × rf_m) := rf_g (rf_nz a7) (g_X5_pullAt_101 w rec5 a1 a2 (s0 + ((s1 * s2) / a7)) a4 m)
def g_X5_pullAt_5_b (w : rf_w) (rec5 : Int32 → Int32 → Int32 → Int32 → rf_m → Option (Int32 × rf_m)) (a1 : Int32) (a2 : Int32) (a3 : Int32) (a4 : Int32) (m : rf_m) : Option (Int32 × rf_m) := (if (m.1 1 5) ≤ a4 then some (a3, m) else rf_g (rf_in a4 12) (rf_g (rf_in a1 30) (rf_vi (((m.1 11 (Int32.toNatClampNeg a4)) - (m.1 11 (Int32.toNatClampNeg a4)) / 32 * 32) - ((m.1 4 (Int32.toNatClampNeg a1)) - (m.1 4 (Int32.toNatClampNeg a1)) / 32 * 32)) fun x2 => rf_g (rf_in a4 12) (rf_g (rf_in a1 30) (rf_vi (((m.1 11 (Int32.toNatClampNeg a4)) / 32) - ((m.1 4 (Int32.toNatClampNeg a1)) / 32)) fun x5 => (if ((x2 * x2) + (x5 * x5)) ≤ 0 then g_X5_pullAt_101 w rec5 a1 a2 a3 a4 m else rf_g (rf_in a4 12) ((if a2 = 0 then g_X5_pullAt_95 w rec5 a1 a2 a4 ((x2 * x2) + (x5 * x5)) a3 (m.1 12 (Int32.toNatClampNeg a4)) x2 m else g_X5_pullAt_95 w rec5 a1 a2 a4 ((x2 * x2) + (x5 * x5)) a3 (m.1 12 (Int32.toNatClampNeg a4)) x5 m))))))))
def g_X5_pullAt_5 (w : rf_w) : Nat → Int32 → Int32 → Int32 → Int32 → rf_m → Option (Int32 × rf_m)
  | 0, _, _, _, _, _ => none
  | n + 1, a1, a2, a3, a4, m => g_X5_pullAt_5_b w (g_X5_pullAt_5 w n) a1 a2 a3 a4 m
def g_X5_pullAt (w : rf_w) (m : rf_m) (a1 : Int32) (a2 : Int32) : Option (Int32 × rf_m) := g_X5_pullAt_5 w rf_fuel a1 a2 0 0 m
theorem s_X5_pullAt_101 {w : rf_w} {K : rf_K} {r : Int32 × rf_m} (C : rf_Ctx 5 cX5_pullAt 8 1 (rf_sh w) K) (hE : rf_End (some .int) K (rf_sh w) 0 0 (some (.int r.1)) (rf_MM w r.2)) {rec5 : Int32 → Int32 → Int32 → Int32 → rf_m → Option (Int32 × rf_m)} (hr5 : ∀ (a1 : Int32) (a2 : Int32) (a3 : Int32) (a4 : Int32) (m : rf_m), rec5 a1 a2 a3 a4 m = some r → rf_V 8 (rf_sh w) K 0 0 5 ([(0, .ref 1), (1, .int a1), (2, .int a2), (3, .int a3), (4, .int a4)], [], rf_MM w m)) (a1 : Int32) (a2 : Int32) (a3 : Int32) (a4 : Int32) (m : rf_m) (hg : g_X5_pullAt_101 w rec5 a1 a2 a3 a4 m = some r) : rf_V 8 (rf_sh w) K 0 0 101 ([(0, .ref 1), (1, .int a1), (2, .int a2), (3, .int a3), (4, .int a4)], [], rf_MM w m) := by
  unfold g_X5_pullAt_101 at hg
  refine rf_seg C [(.iinc 4 1, 3)] (pc' := 104) (S' := ([(4, .int (a4 + 1)), (0, .ref 1), (1, .int a1), (2, .int a2), (3, .int a3)], [], rf_MM w m)) (by decide +kernel) rfl trivial ?_
  refine rf_goto C (-99) 5 (by decide +kernel) ?_
  refine rf_few [1, 2, 3, 4, 0] rfl ?_
  exact hr5 a1 a2 a3 (a4 + 1) m hg
theorem s_X5_pullAt_95 {w : rf_w} {K : rf_K} {r : Int32 × rf_m} (C : rf_Ctx 5 cX5_pullAt 8 1 (rf_sh w) K) (hE : rf_End (some .int) K (rf_sh w) 0 0 (some (.int r.1)) (rf_MM w r.2)) {rec5 : Int32 → Int32 → Int32 → Int32 → rf_m → Option (Int32 × rf_m)} (hr5 : ∀ (a1 : Int32) (a2 : Int32) (a3 : Int32) (a4 : Int32) (m : rf_m), rec5 a1 a2 a3 a4 m = some r → rf_V 8 (rf_sh w) K 0 0 5 ([(0, .ref 1), (1, .int a1), (2, .int a2), (3, .int a3), (4, .int a4)], [], rf_MM w m)) (a1 : Int32) (a2 : Int32) (a4 : Int32) (a7 : Int32) (s0 : Int32) (s1 : Int32) (s2 : Int32) (m : rf_m) (hg : g_X5_pullAt_95 w rec5 a1 a2 a4 a7 s0 s1 s2 m = some r) : rf_V 8 (rf_sh w) K 0 0 95 ([(0, .ref 1), (1, .int a1), (2, .int a2), (4, .int a4), (7, .int a7)], [.int s2, .int s1, .int s0], rf_MM w m) := by
  unfold g_X5_pullAt_95 at hg
  obtain ⟨q0, hg⟩ := rf_g_some hg
  refine rf_seg C [(.imul, 1), (.iload 7, 2), (.idiv, 1), (.iadd, 1), (.istore 3, 1)] (pc' := 101) (S' := ([(3, .int (s0 + ((s1 * s2) / a7))), (0, .ref 1), (1, .int a1), (2, .int a2), (4, .int a4), (7, .int a7)], [], rf_MM w m)) (by decide +kernel) rfl (rf_nz_of q0) ?_
  refine rf_few [1, 2, 3, 0, 4] rfl ?_
  exact s_X5_pullAt_101 C hE hr5 a1 a2 (s0 + ((s1 * s2) / a7)) a4 m hg
theorem s_X5_pullAt_5_b {w : rf_w} {K : rf_K} {r : Int32 × rf_m} (C : rf_Ctx 5 cX5_pullAt 8 1 (rf_sh w) K) (hE : rf_End (some .int) K (rf_sh w) 0 0 (some (.int r.1)) (rf_MM w r.2)) {rec5 : Int32 → Int32 → Int32 → Int32 → rf_m → Option (Int32 × rf_m)} (hr5 : ∀ (a1 : Int32) (a2 : Int32) (a3 : Int32) (a4 : Int32) (m : rf_m), rec5 a1 a2 a3 a4 m = some r → rf_V 8 (rf_sh w) K 0 0 5 ([(0, .ref 1), (1, .int a1), (2, .int a2), (3, .int a3), (4, .int a4)], [], rf_MM w m)) (a1 : Int32) (a2 : Int32) (a3 : Int32) (a4 : Int32) (m : rf_m) (hg : g_X5_pullAt_5_b w rec5 a1 a2 a3 a4 m = some r) : rf_V 8 (rf_sh w) K 0 0 5 ([(0, .ref 1), (1, .int a1), (2, .int a2), (3, .int a3), (4, .int a4)], [], rf_MM w m) := by
  unfold g_X5_pullAt_5_b at hg
  refine rf_seg C [(.iload 4, 2), (.aload 0, 1), (.invokeinterface 5 5, 3)] (pc' := 11) (S' := ([(0, .ref 1), (1, .int a1), (2, .int a2), (3, .int a3), (4, .int a4)], [.int (m.1 1 5), .int a4], rf_MM w m)) (by decide +kernel) rfl trivial ?_
  refine rf_icmp_ge C 96 107 (by decide +kernel) (fun hc => ?_) (fun hc => ?_)
  · replace hg := (if_pos hc).symm.trans hg
    refine rf_seg C [(.iload 3, 1)] (pc' := 108) (S' := ([(0, .ref 1), (1, .int a1), (2, .int a2), (3, .int a3), (4, .int a4)], [.int a3], rf_MM w m)) (by decide +kernel) rfl trivial ?_
    obtain rfl := Option.some.inj hg
    exact rf_iret C hE (by decide +kernel)
  · replace hg := (if_neg hc).symm.trans hg
    obtain ⟨q0, hg⟩ := rf_g_some hg
    obtain ⟨q1, hg⟩ := rf_g_some hg
    refine rf_seg C [(.aload 0, 1), (.invokeinterface 5 13, 3), (.iload 4, 2), (.iaload, 1), (.iconst 32, 2), (.irem, 1), (.aload 0, 1), (.invokeinterface 5 2, 3), (.iload 1, 1), (.iaload, 1), (.iconst 32, 2), (.irem, 1), (.isub, 1)] (pc' := 34) (S' := ([(0, .ref 1), (1, .int a1), (2, .int a2), (3, .int a3), (4, .int a4)], [.int (((m.1 11 (Int32.toNatClampNeg a4)) - (m.1 11 (Int32.toNatClampNeg a4)) / 32 * 32) - ((m.1 4 (Int32.toNatClampNeg a1)) - (m.1 4 (Int32.toNatClampNeg a1)) / 32 * 32))], rf_MM w m)) (by decide +kernel) rfl (by exact ⟨(rf_in_of q0), (rf_nz_of (by decide)), (rf_in_of q1), (rf_nz_of (by decide))⟩) ?_
    obtain ⟨x2, hx2, hg⟩ := rf_vi_some hg
    refine rf_vi_top hx2 ?_
    obtain ⟨q3, hg⟩ := rf_g_some hg
    obtain ⟨q4, hg⟩ := rf_g_some hg
    refine rf_seg C [(.istore 5, 2), (.aload 0, 1), (.invokeinterface 5 13, 3), (.iload 4, 2), (.iaload, 1), (.iconst 32, 2), (.idiv, 1), (.aload 0, 1), (.invokeinterface 5 2, 3), (.iload 1, 1), (.iaload, 1), (.iconst 32, 2), (.idiv, 1), (.isub, 1)] (pc' := 56) (S' := ([(5, .int x2), (0, .ref 1), (1, .int a1), (2, .int a2), (3, .int a3), (4, .int a4)], [.int (((m.1 11 (Int32.toNatClampNeg a4)) / 32) - ((m.1 4 (Int32.toNatClampNeg a1)) / 32))], rf_MM w m)) (by decide +kernel) rfl (by exact ⟨(rf_in_of q3), (rf_nz_of (by decide)), (rf_in_of q4), (rf_nz_of (by decide))⟩) ?_
    obtain ⟨x5, hx5, hg⟩ := rf_vi_some hg
    refine rf_vi_top hx5 ?_
    refine rf_seg C [(.istore 6, 2), (.iload 5, 2), (.iload 5, 2), (.imul, 1), (.iload 6, 2), (.iload 6, 2), (.imul, 1), (.iadd, 1), (.istore 7, 2), (.iload 7, 2)] (pc' := 73) (S' := ([(7, .int ((x2 * x2) + (x5 * x5))), (6, .int x5), (5, .int x2), (0, .ref 1), (1, .int a1), (2, .int a2), (3, .int a3), (4, .int a4)], [.int ((x2 * x2) + (x5 * x5))], rf_MM w m)) (by decide +kernel) rfl trivial ?_
    refine rf_if_le C 28 101 (by decide +kernel) (fun hc => ?_) (fun hc => ?_)
    · replace hg := (if_pos hc).symm.trans hg
      refine rf_few [3, 4, 5, 6, 7] rfl ?_
      exact s_X5_pullAt_101 C hE hr5 a1 a2 a3 a4 m hg
    · replace hg := (if_neg hc).symm.trans hg
      obtain ⟨q6, hg⟩ := rf_g_some hg
      refine rf_seg C [(.iload 3, 1), (.aload 0, 1), (.invokeinterface 5 14, 3), (.iload 4, 2), (.iaload, 1), (.iload 2, 1)] (pc' := 85) (S' := ([(7, .int ((x2 * x2) + (x5 * x5))), (6, .int x5), (5, .int x2), (0, .ref 1), (1, .int a1), (2, .int a2), (3, .int a3), (4, .int a4)], [.int a2, .int (m.1 12 (Int32.toNatClampNeg a4)), .int a3], rf_MM w m)) (by decide +kernel) rfl (rf_in_of q6) ?_
      refine rf_if_eq C 8 93 (by decide +kernel) (fun hc => ?_) (fun hc => ?_)
      · replace hg := (if_pos hc).symm.trans hg
        refine rf_seg C [(.iload 5, 2)] (pc' := 95) (S' := ([(7, .int ((x2 * x2) + (x5 * x5))), (6, .int x5), (5, .int x2), (0, .ref 1), (1, .int a1), (2, .int a2), (3, .int a3), (4, .int a4)], [.int x2, .int (m.1 12 (Int32.toNatClampNeg a4)), .int a3], rf_MM w m)) (by decide +kernel) rfl trivial ?_
        refine rf_few [3, 4, 5, 7, 0] rfl ?_
        exact s_X5_pullAt_95 C hE hr5 a1 a2 a4 ((x2 * x2) + (x5 * x5)) a3 (m.1 12 (Int32.toNatClampNeg a4)) x2 m hg
      · replace hg := (if_neg hc).symm.trans hg
        refine rf_seg C [(.iload 6, 2)] (pc' := 90) (S' := ([(7, .int ((x2 * x2) + (x5 * x5))), (6, .int x5), (5, .int x2), (0, .ref 1), (1, .int a1), (2, .int a2), (3, .int a3), (4, .int a4)], [.int x5, .int (m.1 12 (Int32.toNatClampNeg a4)), .int a3], rf_MM w m)) (by decide +kernel) rfl trivial ?_
        refine rf_goto C 5 95 (by decide +kernel) ?_
        refine rf_few [3, 4, 5, 7, 0] rfl ?_
        exact s_X5_pullAt_95 C hE hr5 a1 a2 a4 ((x2 * x2) + (x5 * x5)) a3 (m.1 12 (Int32.toNatClampNeg a4)) x5 m hg
theorem s_X5_pullAt_5 {w : rf_w} {K : rf_K} {r : Int32 × rf_m} (C : rf_Ctx 5 cX5_pullAt 8 1 (rf_sh w) K) (hE : rf_End (some .int) K (rf_sh w) 0 0 (some (.int r.1)) (rf_MM w r.2)) (n : Nat) : ∀ (a1 : Int32) (a2 : Int32) (a3 : Int32) (a4 : Int32) (m : rf_m), g_X5_pullAt_5 w n a1 a2 a3 a4 m = some r → rf_V 8 (rf_sh w) K 0 0 5 ([(0, .ref 1), (1, .int a1), (2, .int a2), (3, .int a3), (4, .int a4)], [], rf_MM w m) := by
  induction n with
  | zero => intro a1 a2 a3 a4 m hg; cases hg
  | succ n ih => intro a1 a2 a3 a4 m hg; exact s_X5_pullAt_5_b C hE ih a1 a2 a3 a4 m hg
theorem c_X5_pullAt {w : rf_w} {m : rf_m} {a1 : Int32} {a2 : Int32} {r : Int32 × rf_m} (hg : g_X5_pullAt w m a1 a2 = some r) : rf_Con j_X5_pullAt 1 (rf_sh w) [.ref 1, .int a1, .int a2] (rf_MM w m) (some (.int r.1)) (rf_MM w r.2) := by
  refine rf_con j_X5_pullAt 1 ⟨by decide +kernel, rfl, Nat.le_of_ble_eq_true rfl⟩ (fun K C hE => ?_)
  unfold g_X5_pullAt at hg
  show rf_V 8 (rf_sh w) K 0 0 0 ([(0, .ref 1), (1, .int a1), (2, .int a2)], [], rf_MM w m)
  refine rf_seg C [(.iconst 0, 1), (.istore 3, 1), (.iconst 0, 1), (.istore 4, 2)] (pc' := 5) (S' := ([(4, .int 0), (3, .int 0), (0, .ref 1), (1, .int a1), (2, .int a2)], [], rf_MM w m)) (by decide +kernel) rfl trivial ?_
  refine rf_few [2, 3, 4, 1, 0] rfl ?_
  exact s_X5_pullAt_5 C hE rf_fuel a1 a2 0 0 m hg
-- X6_isBase
abbrev j_X6_isBase : rf_J := (6, yX6_isBase, cX6_isBase, 2, (some .boolean))
theorem mw_X6_isBase : rf_mv j_X6_isBase (rf_R 6) 1 := ⟨⟨rf_mem 54 (by decide +kernel), rf_mem 54 (by decide +kernel), rf_mem 1 (by decide +kernel), rf_mem 54 (by decide +kernel)⟩, by decide +kernel, by decide⟩
def g_X6_isBase (w : rf_w) (m : rf_m) (a1 : Int32) : Option (Int32 × rf_m) := (if a1 < 0 then some (0, m) else (if (m.1 41 1) ≤ a1 then some (0, m) else some (1, m)))
theorem c_X6_isBase {w : rf_w} {m : rf_m} {a1 : Int32} {r : Int32 × rf_m} (hg : g_X6_isBase w m a1 = some r) : rf_Con j_X6_isBase 1 (rf_sh w) [.ref 41, .int a1] (rf_MM w m) (some (.int r.1)) (rf_MM w r.2) := by
  refine rf_con j_X6_isBase 1 ⟨by decide +kernel, rfl, Nat.le_of_ble_eq_true rfl⟩ (fun K C hE => ?_)
  unfold g_X6_isBase at hg
  show rf_V 2 (rf_sh w) K 0 0 0 ([(0, .ref 41), (1, .int a1)], [], rf_MM w m)
  refine rf_seg C [(.iload 1, 1)] (pc' := 1) (S' := ([(0, .ref 41), (1, .int a1)], [.int a1], rf_MM w m)) (by decide +kernel) rfl trivial ?_
  refine rf_if_lt C 15 16 (by decide +kernel) (fun hc => ?_) (fun hc => ?_)
  · replace hg := (if_pos hc).symm.trans hg
    refine rf_seg C [(.iconst 0, 1)] (pc' := 17) (S' := ([(0, .ref 41), (1, .int a1)], [.int 0], rf_MM w m)) (by decide +kernel) rfl trivial ?_
    obtain rfl := Option.some.inj hg
    exact rf_zret C hE (by decide) (by decide +kernel)
  · replace hg := (if_neg hc).symm.trans hg
    refine rf_seg C [(.iload 1, 1), (.aload 0, 1), (.invokeinterface 6 1, 3)] (pc' := 9) (S' := ([(0, .ref 41), (1, .int a1)], [.int (m.1 41 1), .int a1], rf_MM w m)) (by decide +kernel) rfl trivial ?_
    refine rf_icmp_ge C 7 16 (by decide +kernel) (fun hc => ?_) (fun hc => ?_)
    · replace hg := (if_pos hc).symm.trans hg
      refine rf_seg C [(.iconst 0, 1)] (pc' := 17) (S' := ([(0, .ref 41), (1, .int a1)], [.int 0], rf_MM w m)) (by decide +kernel) rfl trivial ?_
      obtain rfl := Option.some.inj hg
      exact rf_zret C hE (by decide) (by decide +kernel)
    · replace hg := (if_neg hc).symm.trans hg
      refine rf_seg C [(.iconst 1, 1)] (pc' := 13) (S' := ([(0, .ref 41), (1, .int a1)], [.int 1], rf_MM w m)) (by decide +kernel) rfl trivial ?_
      refine rf_goto C 4 17 (by decide +kernel) ?_
      obtain rfl := Option.some.inj hg
      exact rf_zret C hE (by decide) (by decide +kernel)
-- X6_mayLay
abbrev j_X6_mayLay : rf_J := (6, yX6_mayLay, cX6_mayLay, 6, (some .boolean))
theorem mw_X6_mayLay : rf_mv j_X6_mayLay (rf_R 6) 3 := ⟨⟨rf_mem 53 (by decide +kernel), rf_mem 53 (by decide +kernel), rf_mem 1 (by decide +kernel), rf_mem 53 (by decide +kernel)⟩, by decide +kernel, by decide⟩
def g_X6_mayLay_46 (w : rf_w) (rec6 : Int32 → Int32 → Int32 → Int32 → Int32 → rf_m → Option (Int32 × rf_m)) (a1 : Int32) (a2 : Int32) (a3 : Int32) (a4 : Int32) (a5 : Int32) (m : rf_m) : Option (Int32 × rf_m) := rec6 a1 a2 a3 a4 (a5 + 1) m
def g_X6_mayLay_6_b (w : rf_w) (rec6 : Int32 → Int32 → Int32 → Int32 → Int32 → rf_m → Option (Int32 × rf_m)) (a1 : Int32) (a2 : Int32) (a3 : Int32) (a4 : Int32) (a5 : Int32) (m : rf_m) : Option (Int32 × rf_m) := (if (m.1 41 1) ≤ a5 then (if 2 ≤ a4 then some (0, m) else some (1, m)) else rf_g (rf_in a5 6) (rf_b (g_X11_sideOf w m a1 a2) fun y1 m1 => (if (m.1 43 (Int32.toNatClampNeg a5)) = y1 then rf_g (rf_in a5 6) ((if (m1.1 44 (Int32.toNatClampNeg a5)) = a3 then some (0, m1) else g_X6_mayLay_46 w rec6 a1 a2 a3 (a4 + 1) a5 m1)) else g_X6_mayLay_46 w rec6 a1 a2 a3 a4 a5 m1)))
def g_X6_mayLay_6 (w : rf_w) : Nat → Int32 → Int32 → Int32 → Int32 → Int32 → rf_m → Option (Int32 × rf_m)
  | 0, _, _, _, _, _, _ => none
  | n + 1, a1, a2, a3, a4, a5, m => g_X6_mayLay_6_b w (g_X6_mayLay_6 w n) a1 a2 a3 a4 a5 m
def g_X6_mayLay (w : rf_w) (m : rf_m) (a1 : Int32) (a2 : Int32) (a3 : Int32) : Option (Int32 × rf_m) := g_X6_mayLay_6 w rf_fuel a1 a2 a3 0 0 m
theorem s_X6_mayLay_46 {w : rf_w} {K : rf_K} {r : Int32 × rf_m} (C : rf_Ctx 6 cX6_mayLay 6 3 (rf_sh w) K) (hE : rf_End (some .boolean) K (rf_sh w) 0 0 (some (.int r.1)) (rf_MM w r.2)) {rec6 : Int32 → Int32 → Int32 → Int32 → Int32 → rf_m → Option (Int32 × rf_m)} (hr6 : ∀ (a1 : Int32) (a2 : Int32) (a3 : Int32) (a4 : Int32) (a5 : Int32) (m : rf_m), rec6 a1 a2 a3 a4 a5 m = some r → rf_V 6 (rf_sh w) K 0 0 6 ([(0, .ref 41), (1, .int a1), (2, .int a2), (3, .int a3), (4, .int a4), (5, .int a5)], [], rf_MM w m)) (a1 : Int32) (a2 : Int32) (a3 : Int32) (a4 : Int32) (a5 : Int32) (m : rf_m) (hg : g_X6_mayLay_46 w rec6 a1 a2 a3 a4 a5 m = some r) : rf_V 6 (rf_sh w) K 0 0 46 ([(0, .ref 41), (1, .int a1), (2, .int a2), (3, .int a3), (4, .int a4), (5, .int a5)], [], rf_MM w m) := by
  unfold g_X6_mayLay_46 at hg
  refine rf_seg C [(.iinc 5 1, 3)] (pc' := 49) (S' := ([(5, .int (a5 + 1)), (0, .ref 41), (1, .int a1), (2, .int a2), (3, .int a3), (4, .int a4)], [], rf_MM w m)) (by decide +kernel) rfl trivial ?_
  refine rf_goto C (-43) 6 (by decide +kernel) ?_
  refine rf_few [1, 2, 3, 4, 5, 0] rfl ?_
  exact hr6 a1 a2 a3 a4 (a5 + 1) m hg
theorem s_X6_mayLay_6_b {w : rf_w} {K : rf_K} {r : Int32 × rf_m} (C : rf_Ctx 6 cX6_mayLay 6 3 (rf_sh w) K) (hE : rf_End (some .boolean) K (rf_sh w) 0 0 (some (.int r.1)) (rf_MM w r.2)) {rec6 : Int32 → Int32 → Int32 → Int32 → Int32 → rf_m → Option (Int32 × rf_m)} (hr6 : ∀ (a1 : Int32) (a2 : Int32) (a3 : Int32) (a4 : Int32) (a5 : Int32) (m : rf_m), rec6 a1 a2 a3 a4 a5 m = some r → rf_V 6 (rf_sh w) K 0 0 6 ([(0, .ref 41), (1, .int a1), (2, .int a2), (3, .int a3), (4, .int a4), (5, .int a5)], [], rf_MM w m)) (a1 : Int32) (a2 : Int32) (a3 : Int32) (a4 : Int32) (a5 : Int32) (m : rf_m) (hg : g_X6_mayLay_6_b w rec6 a1 a2 a3 a4 a5 m = some r) : rf_V 6 (rf_sh w) K 0 0 6 ([(0, .ref 41), (1, .int a1), (2, .int a2), (3, .int a3), (4, .int a4), (5, .int a5)], [], rf_MM w m) := by
  unfold g_X6_mayLay_6_b at hg
  refine rf_seg C [(.iload 5, 2), (.aload 0, 1), (.invokeinterface 6 1, 3)] (pc' := 12) (S' := ([(0, .ref 41), (1, .int a1), (2, .int a2), (3, .int a3), (4, .int a4), (5, .int a5)], [.int (m.1 41 1), .int a5], rf_MM w m)) (by decide +kernel) rfl trivial ?_
  refine rf_icmp_ge C 40 52 (by decide +kernel) (fun hc => ?_) (fun hc => ?_)
  · replace hg := (if_pos hc).symm.trans hg
    refine rf_seg C [(.iload 4, 2), (.iconst 2, 1)] (pc' := 55) (S' := ([(0, .ref 41), (1, .int a1), (2, .int a2), (3, .int a3), (4, .int a4), (5, .int a5)], [.int 2, .int a4], rf_MM w m)) (by decide +kernel) rfl trivial ?_
    refine rf_icmp_ge C 7 62 (by decide +kernel) (fun hc => ?_) (fun hc => ?_)
    · replace hg := (if_pos hc).symm.trans hg
      refine rf_seg C [(.iconst 0, 1)] (pc' := 63) (S' := ([(0, .ref 41), (1, .int a1), (2, .int a2), (3, .int a3), (4, .int a4), (5, .int a5)], [.int 0], rf_MM w m)) (by decide +kernel) rfl trivial ?_
      obtain rfl := Option.some.inj hg
      exact rf_zret C hE (by decide) (by decide +kernel)
    · replace hg := (if_neg hc).symm.trans hg
      refine rf_seg C [(.iconst 1, 1)] (pc' := 59) (S' := ([(0, .ref 41), (1, .int a1), (2, .int a2), (3, .int a3), (4, .int a4), (5, .int a5)], [.int 1], rf_MM w m)) (by decide +kernel) rfl trivial ?_
      refine rf_goto C 4 63 (by decide +kernel) ?_
      obtain rfl := Option.some.inj hg
      exact rf_zret C hE (by decide) (by decide +kernel)
  · replace hg := (if_neg hc).symm.trans hg
    obtain ⟨q0, hg⟩ := rf_g_some hg
    refine rf_seg C [(.aload 0, 1), (.invokeinterface 6 4, 3), (.iload 5, 2), (.iaload, 1), (.iload 1, 1), (.iload 2, 1)] (pc' := 24) (S' := ([(0, .ref 41), (1, .int a1), (2, .int a2), (3, .int a3), (4, .int a4), (5, .int a5)], [.int a2, .int a1, .int (m.1 43 (Int32.toNatClampNeg a5))], rf_MM w m)) (by decide +kernel) rfl (rf_in_of q0) ?_
    obtain ⟨y1, m1, hc1, hg⟩ := rf_b_some hg
    refine rf_callsN C rf_fit0 j_X11_sideOf (As := [.int a1, .int a2]) (rest := [.int (m.1 43 (Int32.toNatClampNeg a5))]) mw_X11_sideOf (c_X11_sideOf hc1) (by decide) lk_6_43 rfl rfl (Nat.le_of_ble_eq_true rfl) (by decide +kernel) ?_
    show rf_V 6 (rf_sh w) K 0 0 27 ([(0, .ref 41), (1, .int a1), (2, .int a2), (3, .int a3), (4, .int a4), (5, .int a5)], [.int y1, .int (m.1 43 (Int32.toNatClampNeg a5))], rf_MM w m1)
    refine rf_icmp_ne C 19 46 (by decide +kernel) (fun hc => ?_) (fun hc => ?_)
    · replace hg := (if_neg hc).symm.trans hg
      refine rf_few [0, 1, 2, 3, 4, 5] rfl ?_
      exact s_X6_mayLay_46 C hE hr6 a1 a2 a3 a4 a5 m1 hg
    · replace hg := (if_pos hc).symm.trans hg
      obtain ⟨q2, hg⟩ := rf_g_some hg
      refine rf_seg C [(.aload 0, 1), (.invokeinterface 6 5, 3), (.iload 5, 2), (.iaload, 1), (.iload 3, 1)] (pc' := 38) (S' := ([(0, .ref 41), (1, .int a1), (2, .int a2), (3, .int a3), (4, .int a4), (5, .int a5)], [.int a3, .int (m1.1 44 (Int32.toNatClampNeg a5))], rf_MM w m1)) (by decide +kernel) rfl (rf_in_of q2) ?_
      refine rf_icmp_ne C 5 43 (by decide +kernel) (fun hc => ?_) (fun hc => ?_)
      · replace hg := (if_neg hc).symm.trans hg
        refine rf_seg C [(.iinc 4 1, 3)] (pc' := 46) (S' := ([(4, .int (a4 + 1)), (0, .ref 41), (1, .int a1), (2, .int a2), (3, .int a3), (5, .int a5)], [], rf_MM w m1)) (by decide +kernel) rfl trivial ?_
        refine rf_few [1, 2, 3, 4, 0, 5] rfl ?_
        exact s_X6_mayLay_46 C hE hr6 a1 a2 a3 (a4 + 1) a5 m1 hg
      · replace hg := (if_pos hc).symm.trans hg
        refine rf_seg C [(.iconst 0, 1)] (pc' := 42) (S' := ([(0, .ref 41), (1, .int a1), (2, .int a2), (3, .int a3), (4, .int a4), (5, .int a5)], [.int 0], rf_MM w m1)) (by decide +kernel) rfl trivial ?_
        obtain rfl := Option.some.inj hg
        exact rf_zret C hE (by decide) (by decide +kernel)
theorem s_X6_mayLay_6 {w : rf_w} {K : rf_K} {r : Int32 × rf_m} (C : rf_Ctx 6 cX6_mayLay 6 3 (rf_sh w) K) (hE : rf_End (some .boolean) K (rf_sh w) 0 0 (some (.int r.1)) (rf_MM w r.2)) (n : Nat) : ∀ (a1 : Int32) (a2 : Int32) (a3 : Int32) (a4 : Int32) (a5 : Int32) (m : rf_m), g_X6_mayLay_6 w n a1 a2 a3 a4 a5 m = some r → rf_V 6 (rf_sh w) K 0 0 6 ([(0, .ref 41), (1, .int a1), (2, .int a2), (3, .int a3), (4, .int a4), (5, .int a5)], [], rf_MM w m) := by
  induction n with
  | zero => intro a1 a2 a3 a4 a5 m hg; cases hg
  | succ n ih => intro a1 a2 a3 a4 a5 m hg; exact s_X6_mayLay_6_b C hE ih a1 a2 a3 a4 a5 m hg
theorem c_X6_mayLay {w : rf_w} {m : rf_m} {a1 : Int32} {a2 : Int32} {a3 : Int32} {r : Int32 × rf_m} (hg : g_X6_mayLay w m a1 a2 a3 = some r) : rf_Con j_X6_mayLay 3 (rf_sh w) [.ref 41, .int a1, .int a2, .int a3] (rf_MM w m) (some (.int r.1)) (rf_MM w r.2) := by
  refine rf_con j_X6_mayLay 3 ⟨by decide +kernel, rfl, Nat.le_of_ble_eq_true rfl⟩ (fun K C hE => ?_)
  unfold g_X6_mayLay at hg
  show rf_V 6 (rf_sh w) K 0 0 0 ([(0, .ref 41), (1, .int a1), (2, .int a2), (3, .int a3)], [], rf_MM w m)
  refine rf_seg C [(.iconst 0, 1), (.istore 4, 2), (.iconst 0, 1), (.istore 5, 2)] (pc' := 6) (S' := ([(5, .int 0), (4, .int 0), (0, .ref 41), (1, .int a1), (2, .int a2), (3, .int a3)], [], rf_MM w m)) (by decide +kernel) rfl trivial ?_
  refine rf_few [2, 3, 4, 5, 1, 0] rfl ?_
  exact s_X6_mayLay_6 C hE rf_fuel a1 a2 a3 0 0 m hg
-- X6_addBase
abbrev j_X6_addBase : rf_J := (6, yX6_addBase, cX6_addBase, 4, (some .int))
theorem mw_X6_addBase : rf_mv j_X6_addBase (rf_R 6) 3 := ⟨⟨rf_mem 53 (by decide +kernel), rf_mem 53 (by decide +kernel), rf_mem 1 (by decide +kernel), rf_mem 53 (by decide +kernel)⟩, by decide +kernel, by decide⟩
def g_X6_addBase (w : rf_w) (m : rf_m) (a1 : Int32) (a2 : Int32) (a3 : Int32) : Option (Int32 × rf_m) := rf_b (g_X11_sideOf w m a1 a2) fun y0 m0 => rf_g (rf_in (m.1 41 1) 6) (rf_g (rf_in ((rf_i m0 43 (Int32.toNatClampNeg (m.1 41 1)) y0).1 41 1) 6) (some (((rf_i (rf_i (rf_i m0 43 (Int32.toNatClampNeg (m.1 41 1)) y0) 44 (Int32.toNatClampNeg ((rf_i m0 43 (Int32.toNatClampNeg (m.1 41 1)) y0).1 41 1)) a3) 41 1 (((rf_i (rf_i m0 43 (Int32.toNatClampNeg (m.1 41 1)) y0) 44 (Int32.toNatClampNeg ((rf_i m0 43 (Int32.toNatClampNeg (m.1 41 1)) y0).1 41 1)) a3).1 41 1) + 1)).1 41 1) - 1, rf_i (rf_i (rf_i m0 43 (Int32.toNatClampNeg (m.1 41 1)) y0) 44 (Int32.toNatClampNeg ((rf_i m0 43 (Int32.toNatClampNeg (m.1 41 1)) y0).1 41 1)) a3) 41 1 (((rf_i (rf_i m0 43 (Int32.toNatClampNeg (m.1 41 1)) y0) 44 (Int32.toNatClampNeg ((rf_i m0 43 (Int32.toNatClampNeg (m.1 41 1)) y0).1 41 1)) a3).1 41 1) + 1))))
theorem c_X6_addBase {w : rf_w} {m : rf_m} {a1 : Int32} {a2 : Int32} {a3 : Int32} {r : Int32 × rf_m} (hg : g_X6_addBase w m a1 a2 a3 = some r) : rf_Con j_X6_addBase 3 (rf_sh w) [.ref 41, .int a1, .int a2, .int a3] (rf_MM w m) (some (.int r.1)) (rf_MM w r.2) := by
  refine rf_con j_X6_addBase 3 ⟨by decide +kernel, rfl, Nat.le_of_ble_eq_true rfl⟩ (fun K C hE => ?_)
  unfold g_X6_addBase at hg
  show rf_V 4 (rf_sh w) K 0 0 0 ([(0, .ref 41), (1, .int a1), (2, .int a2), (3, .int a3)], [], rf_MM w m)
  refine rf_seg C [(.aload 0, 1), (.invokeinterface 6 4, 3), (.aload 0, 1), (.invokeinterface 6 1, 3), (.iload 1, 1), (.iload 2, 1)] (pc' := 10) (S' := ([(0, .ref 41), (1, .int a1), (2, .int a2), (3, .int a3)], [.int a2, .int a1, .int (m.1 41 1), .ref 43], rf_MM w m)) (by decide +kernel) rfl trivial ?_
  obtain ⟨y0, m0, hc0, hg⟩ := rf_b_some hg
  refine rf_callsN C rf_fit0 j_X11_sideOf (As := [.int a1, .int a2]) (rest := [.int (m.1 41 1), .ref 43]) mw_X11_sideOf (c_X11_sideOf hc0) (by decide) lk_6_43 rfl rfl (Nat.le_of_ble_eq_true rfl) (by decide +kernel) ?_
  show rf_V 4 (rf_sh w) K 0 0 13 ([(0, .ref 41), (1, .int a1), (2, .int a2), (3, .int a3)], [.int y0, .int (m.1 41 1), .ref 43], rf_MM w m0)
  obtain ⟨q1, hg⟩ := rf_g_some hg
  obtain ⟨q2, hg⟩ := rf_g_some hg
  refine rf_seg C [(.iastore, 1), (.aload 0, 1), (.invokeinterface 6 5, 3), (.aload 0, 1), (.invokeinterface 6 1, 3), (.iload 3, 1), (.iastore, 1), (.aload 0, 1), (.dup, 1), (.invokeinterface 6 1, 3), (.iconst 1, 1), (.iadd, 1), (.multianewarray 6 1, 3), (.aload 0, 1), (.invokeinterface 6 1, 3), (.iconst 1, 1), (.isub, 1)] (pc' := 40) (S' := ([(0, .ref 41), (1, .int a1), (2, .int a2), (3, .int a3)], [.int (((rf_i (rf_i (rf_i m0 43 (Int32.toNatClampNeg (m.1 41 1)) y0) 44 (Int32.toNatClampNeg ((rf_i m0 43 (Int32.toNatClampNeg (m.1 41 1)) y0).1 41 1)) a3) 41 1 (((rf_i (rf_i m0 43 (Int32.toNatClampNeg (m.1 41 1)) y0) 44 (Int32.toNatClampNeg ((rf_i m0 43 (Int32.toNatClampNeg (m.1 41 1)) y0).1 41 1)) a3).1 41 1) + 1)).1 41 1) - 1)], rf_MM w (rf_i (rf_i (rf_i m0 43 (Int32.toNatClampNeg (m.1 41 1)) y0) 44 (Int32.toNatClampNeg ((rf_i m0 43 (Int32.toNatClampNeg (m.1 41 1)) y0).1 41 1)) a3) 41 1 (((rf_i (rf_i m0 43 (Int32.toNatClampNeg (m.1 41 1)) y0) 44 (Int32.toNatClampNeg ((rf_i m0 43 (Int32.toNatClampNeg (m.1 41 1)) y0).1 41 1)) a3).1 41 1) + 1)))) (by decide +kernel) rfl (by exact ⟨(rf_in_of q1), (rf_in_of q2)⟩) ?_
  obtain rfl := Option.some.inj hg
  exact rf_iret C hE (by decide +kernel)
-- X6_addBar
abbrev j_X6_addBar : rf_J := (6, yX6_addBar, cX6_addBar, 6, (some .int))
theorem mw_X6_addBar : rf_mv j_X6_addBar (rf_R 6) 4 := ⟨⟨rf_mem 54 (by decide +kernel), rf_mem 54 (by decide +kernel), rf_mem 1 (by decide +kernel), rf_mem 54 (by decide +kernel)⟩, by decide +kernel, by decide⟩
def g_X6_addBar (w : rf_w) (m : rf_m) (a1 : Int32) (a2 : Int32) (a3 : Int32) (a4 : Int32) : Option (Int32 × rf_m) := rf_g (rf_in a1 6) (rf_vi ((a1 * 40) + (m.1 42 (Int32.toNatClampNeg a1))) fun x1 => rf_g (rf_in x1 240) (rf_g (rf_in x1 240) (rf_g (rf_in x1 240) (rf_g (rf_in a1 6) (rf_g (rf_in a1 6) (rf_g (rf_in a1 6) (some ((rf_i (rf_i (rf_i (rf_i m 45 (Int32.toNatClampNeg x1) a2) 46 (Int32.toNatClampNeg x1) a3) 47 (Int32.toNatClampNeg x1) a4) 42 (Int32.toNatClampNeg a1) (((rf_i (rf_i (rf_i m 45 (Int32.toNatClampNeg x1) a2) 46 (Int32.toNatClampNeg x1) a3) 47 (Int32.toNatClampNeg x1) a4).1 42 (Int32.toNatClampNeg a1)) + 1)).1 42 (Int32.toNatClampNeg a1), rf_i (rf_i (rf_i (rf_i m 45 (Int32.toNatClampNeg x1) a2) 46 (Int32.toNatClampNeg x1) a3) 47 (Int32.toNatClampNeg x1) a4) 42 (Int32.toNatClampNeg a1) (((rf_i (rf_i (rf_i m 45 (Int32.toNatClampNeg x1) a2) 46 (Int32.toNatClampNeg x1) a3) 47 (Int32.toNatClampNeg x1) a4).1 42 (Int32.toNatClampNeg a1)) + 1)))))))))
theorem c_X6_addBar {w : rf_w} {m : rf_m} {a1 : Int32} {a2 : Int32} {a3 : Int32} {a4 : Int32} {r : Int32 × rf_m} (hg : g_X6_addBar w m a1 a2 a3 a4 = some r) : rf_Con j_X6_addBar 1 (rf_sh w) [.ref 41, .int a1, .int a2, .int a3, .int a4] (rf_MM w m) (some (.int r.1)) (rf_MM w r.2) := by
  refine rf_con j_X6_addBar 1 ⟨by decide +kernel, rfl, Nat.le_of_ble_eq_true rfl⟩ (fun K C hE => ?_)
  unfold g_X6_addBar at hg
  show rf_V 6 (rf_sh w) K 0 0 0 ([(0, .ref 41), (1, .int a1), (2, .int a2), (3, .int a3), (4, .int a4)], [], rf_MM w m)
  obtain ⟨q0, hg⟩ := rf_g_some hg
  refine rf_seg C [(.iload 1, 1), (.iconst 40, 2), (.imul, 1), (.aload 0, 1), (.invokeinterface 6 0, 3), (.iload 1, 1), (.iaload, 1), (.iadd, 1)] (pc' := 11) (S' := ([(0, .ref 41), (1, .int a1), (2, .int a2), (3, .int a3), (4, .int a4)], [.int ((a1 * 40) + (m.1 42 (Int32.toNatClampNeg a1)))], rf_MM w m)) (by decide +kernel) rfl (rf_in_of q0) ?_
  obtain ⟨x1, hx1, hg⟩ := rf_vi_some hg
  refine rf_vi_top hx1 ?_
  obtain ⟨q2, hg⟩ := rf_g_some hg
  obtain ⟨q3, hg⟩ := rf_g_some hg
  obtain ⟨q4, hg⟩ := rf_g_some hg
  obtain ⟨q5, hg⟩ := rf_g_some hg
  obtain ⟨q6, hg⟩ := rf_g_some hg
  obtain ⟨q7, hg⟩ := rf_g_some hg
  refine rf_seg C [(.istore 5, 2), (.aload 0, 1), (.invokeinterface 6 6, 3), (.iload 5, 2), (.iload 2, 1), (.iastore, 1), (.aload 0, 1), (.invokeinterface 6 7, 3), (.iload 5, 2), (.iload 3, 1), (.iastore, 1), (.aload 0, 1), (.invokeinterface 6 8, 3), (.iload 5, 2), (.iload 4, 2), (.iastore, 1), (.aload 0, 1), (.invokeinterface 6 0, 3), (.iload 1, 1), (.dup2, 1), (.iaload, 1), (.iconst 1, 1), (.iadd, 1), (.iastore, 1), (.aload 0, 1), (.invokeinterface 6 0, 3), (.iload 1, 1), (.iaload, 1)] (pc' := 54) (S' := ([(5, .int x1), (0, .ref 41), (1, .int a1), (2, .int a2), (3, .int a3), (4, .int a4)], [.int ((rf_i (rf_i (rf_i (rf_i m 45 (Int32.toNatClampNeg x1) a2) 46 (Int32.toNatClampNeg x1) a3) 47 (Int32.toNatClampNeg x1) a4) 42 (Int32.toNatClampNeg a1) (((rf_i (rf_i (rf_i m 45 (Int32.toNatClampNeg x1) a2) 46 (Int32.toNatClampNeg x1) a3) 47 (Int32.toNatClampNeg x1) a4).1 42 (Int32.toNatClampNeg a1)) + 1)).1 42 (Int32.toNatClampNeg a1))], rf_MM w (rf_i (rf_i (rf_i (rf_i m 45 (Int32.toNatClampNeg x1) a2) 46 (Int32.toNatClampNeg x1) a3) 47 (Int32.toNatClampNeg x1) a4) 42 (Int32.toNatClampNeg a1) (((rf_i (rf_i (rf_i m 45 (Int32.toNatClampNeg x1) a2) 46 (Int32.toNatClampNeg x1) a3) 47 (Int32.toNatClampNeg x1) a4).1 42 (Int32.toNatClampNeg a1)) + 1)))) (by decide +kernel) rfl (by exact ⟨(rf_in_of q2), (rf_in_of q3), (rf_in_of q4), (rf_in_of q5), (rf_in_of q6), (rf_in_of q7)⟩) ?_
  obtain rfl := Option.some.inj hg
  exact rf_iret C hE (by decide +kernel)
-- X6_laidAgain
abbrev j_X6_laidAgain : rf_J := (6, yX6_laidAgain, cX6_laidAgain, 3, (some .int))
theorem mw_X6_laidAgain : rf_mv j_X6_laidAgain (rf_R 6) 1 := ⟨⟨rf_mem 56 (by decide +kernel), rf_mem 56 (by decide +kernel), rf_mem 1 (by decide +kernel), rf_mem 56 (by decide +kernel)⟩, by decide +kernel, by decide⟩
def g_X6_laidAgain (w : rf_w) (m : rf_m) (a1 : Int32) : Option (Int32 × rf_m) := rf_b (g_X6_twinOf w m a1) fun y0 m0 => (if y0 = ((-1)) then some (0, m0) else rf_b (g_X6_areTorn w m0 a1 y0) fun y1 m1 => (if y1 = 0 then some (1, m1) else some (2, m1)))
theorem c_X6_laidAgain {w : rf_w} {m : rf_m} {a1 : Int32} {r : Int32 × rf_m} (hg : g_X6_laidAgain w m a1 = some r) : rf_Con j_X6_laidAgain 3 (rf_sh w) [.ref 41, .int a1] (rf_MM w m) (some (.int r.1)) (rf_MM w r.2) := by
  refine rf_con j_X6_laidAgain 3 ⟨by decide +kernel, rfl, Nat.le_of_ble_eq_true rfl⟩ (fun K C hE => ?_)
  unfold g_X6_laidAgain at hg
  show rf_V 3 (rf_sh w) K 0 0 0 ([(0, .ref 41), (1, .int a1)], [], rf_MM w m)
  refine rf_seg C [(.aload 0, 1), (.iload 1, 1)] (pc' := 2) (S' := ([(0, .ref 41), (1, .int a1)], [.int a1, .ref 41], rf_MM w m)) (by decide +kernel) rfl trivial ?_
  obtain ⟨y0, m0, hc0, hg⟩ := rf_b_some hg
  refine rf_callv C rf_fit0 j_X6_twinOf (ci := 6) (As := [.int a1]) (rest := []) mw_X6_twinOf (c_X6_twinOf hc0) (by decide) rfl (by decide) lk_6_57 rfl rfl (Nat.le_of_ble_eq_true rfl) (by decide +kernel) ?_
  show rf_V 3 (rf_sh w) K 0 0 5 ([(0, .ref 41), (1, .int a1)], [.int y0], rf_MM w m0)
  refine rf_seg C [(.istore 2, 1), (.iload 2, 1), (.iconst (-1), 1)] (pc' := 8) (S' := ([(2, .int y0), (0, .ref 41), (1, .int a1)], [.int ((-1)), .int y0], rf_MM w m0)) (by decide +kernel) rfl trivial ?_
  refine rf_icmp_ne C 5 13 (by decide +kernel) (fun hc => ?_) (fun hc => ?_)
  · replace hg := (if_neg hc).symm.trans hg
    refine rf_seg C [(.aload 0, 1), (.iload 1, 1), (.iload 2, 1)] (pc' := 16) (S' := ([(2, .int y0), (0, .ref 41), (1, .int a1)], [.int y0, .int a1, .ref 41], rf_MM w m0)) (by decide +kernel) rfl trivial ?_
    obtain ⟨y1, m1, hc1, hg⟩ := rf_b_some hg
    refine rf_callv C rf_fit0 j_X6_areTorn (ci := 6) (As := [.int a1, .int y0]) (rest := []) mw_X6_areTorn (c_X6_areTorn hc1) (by decide) rfl (by decide) lk_6_60 rfl rfl (Nat.le_of_ble_eq_true rfl) (by decide +kernel) ?_
    show rf_V 3 (rf_sh w) K 0 0 19 ([(2, .int y0), (0, .ref 41), (1, .int a1)], [.int y1], rf_MM w m1)
    refine rf_if_eq C 7 26 (by decide +kernel) (fun hc => ?_) (fun hc => ?_)
    · replace hg := (if_pos hc).symm.trans hg
      refine rf_seg C [(.iconst 1, 1)] (pc' := 27) (S' := ([(2, .int y0), (0, .ref 41), (1, .int a1)], [.int 1], rf_MM w m1)) (by decide +kernel) rfl trivial ?_
      obtain rfl := Option.some.inj hg
      exact rf_iret C hE (by decide +kernel)
    · replace hg := (if_neg hc).symm.trans hg
      refine rf_seg C [(.iconst 2, 1)] (pc' := 23) (S' := ([(2, .int y0), (0, .ref 41), (1, .int a1)], [.int 2], rf_MM w m1)) (by decide +kernel) rfl trivial ?_
      refine rf_goto C 4 27 (by decide +kernel) ?_
      obtain rfl := Option.some.inj hg
      exact rf_iret C hE (by decide +kernel)
  · replace hg := (if_pos hc).symm.trans hg
    refine rf_seg C [(.iconst 0, 1)] (pc' := 12) (S' := ([(2, .int y0), (0, .ref 41), (1, .int a1)], [.int 0], rf_MM w m0)) (by decide +kernel) rfl trivial ?_
    obtain rfl := Option.some.inj hg
    exact rf_iret C hE (by decide +kernel)
-- X6_addArc
abbrev j_X6_addArc : rf_J := (6, yX6_addArc, cX6_addArc, 3, (some .int))
theorem mw_X6_addArc : rf_mv j_X6_addArc (rf_R 6) 2 := ⟨⟨rf_mem 95 (by decide +kernel), rf_mem 95 (by decide +kernel), rf_mem 1 (by decide +kernel), rf_mem 95 (by decide +kernel)⟩, by decide +kernel, by decide⟩
def g_X6_addArc (w : rf_w) (m : rf_m) (a1 : Int32) (a2 : Int32) : Option (Int32 × rf_m) := rf_g (rf_in (m.1 41 3) 30) (rf_g (rf_in ((rf_i m 48 (Int32.toNatClampNeg (m.1 41 3)) a1).1 41 3) 30) (some (((rf_i (rf_i (rf_i m 48 (Int32.toNatClampNeg (m.1 41 3)) a1) 49 (Int32.toNatClampNeg ((rf_i m 48 (Int32.toNatClampNeg (m.1 41 3)) a1).1 41 3)) a2) 41 3 (((rf_i (rf_i m 48 (Int32.toNatClampNeg (m.1 41 3)) a1) 49 (Int32.toNatClampNeg ((rf_i m 48 (Int32.toNatClampNeg (m.1 41 3)) a1).1 41 3)) a2).1 41 3) + 1)).1 41 3) - 1, rf_i (rf_i (rf_i m 48 (Int32.toNatClampNeg (m.1 41 3)) a1) 49 (Int32.toNatClampNeg ((rf_i m 48 (Int32.toNatClampNeg (m.1 41 3)) a1).1 41 3)) a2) 41 3 (((rf_i (rf_i m 48 (Int32.toNatClampNeg (m.1 41 3)) a1) 49 (Int32.toNatClampNeg ((rf_i m 48 (Int32.toNatClampNeg (m.1 41 3)) a1).1 41 3)) a2).1 41 3) + 1))))
theorem c_X6_addArc {w : rf_w} {m : rf_m} {a1 : Int32} {a2 : Int32} {r : Int32 × rf_m} (hg : g_X6_addArc w m a1 a2 = some r) : rf_Con j_X6_addArc 1 (rf_sh w) [.ref 41, .int a1, .int a2] (rf_MM w m) (some (.int r.1)) (rf_MM w r.2) := by
  refine rf_con j_X6_addArc 1 ⟨by decide +kernel, rfl, Nat.le_of_ble_eq_true rfl⟩ (fun K C hE => ?_)
  unfold g_X6_addArc at hg
  show rf_V 3 (rf_sh w) K 0 0 0 ([(0, .ref 41), (1, .int a1), (2, .int a2)], [], rf_MM w m)
  obtain ⟨q0, hg⟩ := rf_g_some hg
  obtain ⟨q1, hg⟩ := rf_g_some hg
  refine rf_seg C [(.aload 0, 1), (.invokeinterface 6 9, 3), (.aload 0, 1), (.invokeinterface 6 3, 3), (.iload 1, 1), (.iastore, 1), (.aload 0, 1), (.invokeinterface 6 10, 3), (.aload 0, 1), (.invokeinterface 6 3, 3), (.iload 2, 1), (.iastore, 1), (.aload 0, 1), (.dup, 1), (.invokeinterface 6 3, 3), (.iconst 1, 1), (.iadd, 1), (.multianewarray 6 3, 3), (.aload 0, 1), (.invokeinterface 6 3, 3), (.iconst 1, 1), (.isub, 1)] (pc' := 36) (S' := ([(0, .ref 41), (1, .int a1), (2, .int a2)], [.int (((rf_i (rf_i (rf_i m 48 (Int32.toNatClampNeg (m.1 41 3)) a1) 49 (Int32.toNatClampNeg ((rf_i m 48 (Int32.toNatClampNeg (m.1 41 3)) a1).1 41 3)) a2) 41 3 (((rf_i (rf_i m 48 (Int32.toNatClampNeg (m.1 41 3)) a1) 49 (Int32.toNatClampNeg ((rf_i m 48 (Int32.toNatClampNeg (m.1 41 3)) a1).1 41 3)) a2).1 41 3) + 1)).1 41 3) - 1)], rf_MM w (rf_i (rf_i (rf_i m 48 (Int32.toNatClampNeg (m.1 41 3)) a1) 49 (Int32.toNatClampNeg ((rf_i m 48 (Int32.toNatClampNeg (m.1 41 3)) a1).1 41 3)) a2) 41 3 (((rf_i (rf_i m 48 (Int32.toNatClampNeg (m.1 41 3)) a1) 49 (Int32.toNatClampNeg ((rf_i m 48 (Int32.toNatClampNeg (m.1 41 3)) a1).1 41 3)) a2).1 41 3) + 1)))) (by decide +kernel) rfl (by exact ⟨(rf_in_of q0), (rf_in_of q1)⟩) ?_
  obtain rfl := Option.some.inj hg
  exact rf_iret C hE (by decide +kernel)
-- J9_floorDiv_f86c9
abbrev j_J9_floorDiv_f86c9 : rf_J := (22, yJ9_floorDiv_f86c9, cJ9_floorDiv_f86c9, 6, (some .long))
theorem mw_J9_floorDiv_f86c9 : rf_ms j_J9_floorDiv_f86c9 2 := ⟨⟨rf_mem 96 (by decide +kernel), rf_mem 20 (by decide +kernel), rf_mem 96 (by decide +kernel)⟩, by decide +kernel, by decide⟩
def g_J9_floorDiv_f86c9 (w : rf_w) (m : rf_m) (a0 : Int64) (a2 : Int64) : Option (Int64 × rf_m) := rf_g (rf_nzl a2) ((if (0 : Int32) ≤ (lg_cmp (a0 ^^^ a2) 0) then some (a0 / a2, m) else (if (lg_cmp ((a0 / a2) * a2) a0) = 0 then some (a0 / a2, m) else some ((a0 / a2) - 1, m))))
theorem c_J9_floorDiv_f86c9 {w : rf_w} {m : rf_m} {a0 : Int64} {a2 : Int64} {r : Int64 × rf_m} (hg : g_J9_floorDiv_f86c9 w m a0 a2 = some r) : rf_Con j_J9_floorDiv_f86c9 1 (rf_sh w) [.long a0, .long a2] (rf_MM w m) (some (.long r.1)) (rf_MM w r.2) := by
  refine rf_con j_J9_floorDiv_f86c9 1 ⟨by decide +kernel, rfl, Nat.le_of_ble_eq_true rfl⟩ (fun K C hE => ?_)
  unfold g_J9_floorDiv_f86c9 at hg
  show rf_V 6 (rf_sh w) K 0 0 0 ([(0, .long a0), (2, .long a2)], [], rf_MM w m)
  obtain ⟨q0, hg⟩ := rf_g_some hg
  refine rf_seg C [(.lload 0, 1), (.lload 2, 1), (.ldiv, 1), (.lstore 4, 2), (.lload 0, 1), (.lload 2, 1), (.lxor, 1), (.goto_w 0, 1), (.lcmp, 1)] (pc' := 10) (S' := ([(4, .long (a0 / a2)), (0, .long a0), (2, .long a2)], [.int (lg_cmp (a0 ^^^ a2) 0)], rf_MM w m)) (by decide +kernel) rfl (rf_nzl_of q0) ?_
  refine rf_if_ge C 17 27 (by decide +kernel) (fun hc => ?_) (fun hc => ?_)
  · replace hg := (if_pos hc).symm.trans hg
    refine rf_seg C [(.lload 4, 2)] (pc' := 29) (S' := ([(4, .long (a0 / a2)), (0, .long a0), (2, .long a2)], [.long (a0 / a2)], rf_MM w m)) (by decide +kernel) rfl trivial ?_
    obtain rfl := Option.some.inj hg
    exact rf_lret C hE (by decide +kernel)
  · replace hg := (if_neg hc).symm.trans hg
    refine rf_seg C [(.lload 4, 2), (.lload 2, 1), (.lmul, 1), (.lload 0, 1), (.lcmp, 1)] (pc' := 19) (S' := ([(4, .long (a0 / a2)), (0, .long a0), (2, .long a2)], [.int (lg_cmp ((a0 / a2) * a2) a0)], rf_MM w m)) (by decide +kernel) rfl trivial ?_
    refine rf_if_eq C 8 27 (by decide +kernel) (fun hc => ?_) (fun hc => ?_)
    · replace hg := (if_pos hc).symm.trans hg
      refine rf_seg C [(.lload 4, 2)] (pc' := 29) (S' := ([(4, .long (a0 / a2)), (0, .long a0), (2, .long a2)], [.long (a0 / a2)], rf_MM w m)) (by decide +kernel) rfl trivial ?_
      obtain rfl := Option.some.inj hg
      exact rf_lret C hE (by decide +kernel)
    · replace hg := (if_neg hc).symm.trans hg
      refine rf_seg C [(.lload 4, 2), (.goto_w 1, 1), (.lsub, 1)] (pc' := 26) (S' := ([(4, .long (a0 / a2)), (0, .long a0), (2, .long a2)], [.long ((a0 / a2) - 1)], rf_MM w m)) (by decide +kernel) rfl trivial ?_
      obtain rfl := Option.some.inj hg
      exact rf_lret C hE (by decide +kernel)
-- X6_fit
abbrev j_X6_fit : rf_J := (6, yX6_fit, cX6_fit, 12, (some .long))
theorem mw_X6_fit : rf_mv j_X6_fit (rf_R 6) 1 := ⟨⟨rf_mem 96 (by decide +kernel), rf_mem 96 (by decide +kernel), rf_mem 1 (by decide +kernel), rf_mem 96 (by decide +kernel)⟩, by decide +kernel, by decide⟩
def g_X6_fit_14_b (w : rf_w) (rec14 : Int32 → Int64 → Int64 → Int64 → Int64 → Int32 → rf_m → Option (Int64 × rf_m)) (a1 : Int32) (a2 : Int64) (a4 : Int64) (a6 : Int64) (a8 : Int64) (a10 : Int32) (m : rf_m) : Option (Int64 × rf_m) := (if (m.1 41 3) ≤ a10 then rf_vl (((Int32.toInt64 (m.1 41 3)) * a6) - (a2 * a2)) fun x0 => (if (0 : Int32) < (lg_cmp x0 0) then (if a1 = 0 then rf_b (g_J9_floorDiv_f86c9 w m (1000 * (((Int32.toInt64 (m.1 41 3)) * a8) - (a2 * a4))) x0) fun y1 m1 => some (y1, m1) else rf_b (g_J9_floorDiv_f86c9 w m (1000 * ((a6 * a4) - (a2 * a8))) x0) fun y2 m2 => some (y2, m2)) else some ((-9223372036854775808), m)) else rf_g (rf_in a10 30) (rf_vl (a2 + (Int32.toInt64 (m.1 48 (Int32.toNatClampNeg a10)))) fun x4 => rf_g (rf_in a10 30) (rf_vl (a4 + (Int32.toInt64 (m.1 49 (Int32.toNatClampNeg a10)))) fun x6 => rf_g (rf_in a10 30) (rf_g (rf_in a10 30) (rf_vl (a6 + (Int32.toInt64 ((m.1 48 (Int32.toNatClampNeg a10)) * (m.1 48 (Int32.toNatClampNeg a10))))) fun x9 => rf_g (rf_in a10 30) (rf_g (rf_in a10 30) (rf_vl (a8 + ((Int32.toInt64 (m.1 48 (Int32.toNatClampNeg a10))) * (Int32.toInt64 (m.1 49 (Int32.toNatClampNeg a10))))) fun x12 => rec14 a1 x4 x6 x9 x12 (a10 + 1) m)))))))
def g_X6_fit_14 (w : rf_w) : Nat → Int32 → Int64 → Int64 → Int64 → Int64 → Int32 → rf_m → Option (Int64 × rf_m)
  | 0, _, _, _, _, _, _, _ => none
  | n + 1, a1, a2, a4, a6, a8, a10, m => g_X6_fit_14_b w (g_X6_fit_14 w n) a1 a2 a4 a6 a8 a10 m
def g_X6_fit (w : rf_w) (m : rf_m) (a1 : Int32) : Option (Int64 × rf_m) := g_X6_fit_14 w rf_fuel a1 0 0 0 0 0 m
theorem s_X6_fit_14_b {w : rf_w} {K : rf_K} {r : Int64 × rf_m} (C : rf_Ctx 6 cX6_fit 12 2 (rf_sh w) K) (hE : rf_End (some .long) K (rf_sh w) 0 0 (some (.long r.1)) (rf_MM w r.2)) {rec14 : Int32 → Int64 → Int64 → Int64 → Int64 → Int32 → rf_m → Option (Int64 × rf_m)} (hr14 : ∀ (a1 : Int32) (a2 : Int64) (a4 : Int64) (a6 : Int64) (a8 : Int64) (a10 : Int32) (m : rf_m), rec14 a1 a2 a4 a6 a8 a10 m = some r → rf_V 12 (rf_sh w) K 0 0 14 ([(0, .ref 41), (1, .int a1), (2, .long a2), (4, .long a4), (6, .long a6), (8, .long a8), (10, .int a10)], [], rf_MM w m)) (a1 : Int32) (a2 : Int64) (a4 : Int64) (a6 : Int64) (a8 : Int64) (a10 : Int32) (m : rf_m) (hg : g_X6_fit_14_b w rec14 a1 a2 a4 a6 a8 a10 m = some r) : rf_V 12 (rf_sh w) K 0 0 14 ([(0, .ref 41), (1, .int a1), (2, .long a2), (4, .long a4), (6, .long a6), (8, .long a8), (10, .int a10)], [], rf_MM w m) := by
  unfold g_X6_fit_14_b at hg
  refine rf_seg C [(.iload 10, 2), (.aload 0, 1), (.invokeinterface 6 3, 3)] (pc' := 20) (S' := ([(0, .ref 41), (1, .int a1), (2, .long a2), (4, .long a4), (6, .long a6), (8, .long a8), (10, .int a10)], [.int (m.1 41 3), .int a10], rf_MM w m)) (by decide +kernel) rfl trivial ?_
  refine rf_icmp_ge C 76 96 (by decide +kernel) (fun hc => ?_) (fun hc => ?_)
  · replace hg := (if_pos hc).symm.trans hg
    refine rf_seg C [(.aload 0, 1), (.invokeinterface 6 3, 3), (.i2l, 1), (.lload 6, 2), (.lmul, 1), (.lload 2, 1), (.lload 2, 1), (.lmul, 1), (.lsub, 1)] (pc' := 108) (S' := ([(0, .ref 41), (1, .int a1), (2, .long a2), (4, .long a4), (6, .long a6), (8, .long a8), (10, .int a10)], [.long (((Int32.toInt64 (m.1 41 3)) * a6) - (a2 * a2))], rf_MM w m)) (by decide +kernel) rfl trivial ?_
    obtain ⟨x0, hx0, hg⟩ := rf_vl_some hg
    refine rf_vl_top hx0 ?_
    refine rf_seg C [(.lstore 10, 2), (.lload 10, 2), (.goto_w 0, 1), (.lcmp, 1)] (pc' := 114) (S' := ([(10, .long x0), (0, .ref 41), (1, .int a1), (2, .long a2), (4, .long a4), (6, .long a6), (8, .long a8)], [.int (lg_cmp x0 0)], rf_MM w m)) (by decide +kernel) rfl trivial ?_
    refine rf_if_gt C 7 121 (by decide +kernel) (fun hc => ?_) (fun hc => ?_)
    · replace hg := (if_pos hc).symm.trans hg
      refine rf_seg C [(.goto_w 1000, 3), (.iload 1, 1)] (pc' := 125) (S' := ([(10, .long x0), (0, .ref 41), (1, .int a1), (2, .long a2), (4, .long a4), (6, .long a6), (8, .long a8)], [.int a1, .long 1000], rf_MM w m)) (by decide +kernel) rfl trivial ?_
      refine rf_if_eq C 16 141 (by decide +kernel) (fun hc => ?_) (fun hc => ?_)
      · replace hg := (if_pos hc).symm.trans hg
        refine rf_seg C [(.aload 0, 1), (.invokeinterface 6 3, 3), (.i2l, 1), (.lload 8, 2), (.lmul, 1), (.lload 2, 1), (.lload 4, 2), (.lmul, 1), (.lsub, 1), (.lmul, 1), (.lload 10, 2)] (pc' := 157) (S' := ([(10, .long x0), (0, .ref 41), (1, .int a1), (2, .long a2), (4, .long a4), (6, .long a6), (8, .long a8)], [.long x0, .long (1000 * (((Int32.toInt64 (m.1 41 3)) * a8) - (a2 * a4)))], rf_MM w m)) (by decide +kernel) rfl trivial ?_
        obtain ⟨y1, m1, hc1, hg⟩ := rf_b_some hg
        refine rf_calls C rf_fit0 j_J9_floorDiv_f86c9 (As := [.long (1000 * (((Int32.toInt64 (m.1 41 3)) * a8) - (a2 * a4))), .long x0]) (rest := []) mw_J9_floorDiv_f86c9 (c_J9_floorDiv_f86c9 hc1) (by decide) lk_6_77 rfl rfl (Nat.le_of_ble_eq_true rfl) (by decide +kernel) ?_
        show rf_V 12 (rf_sh w) K 0 0 160 ([(10, .long x0), (0, .ref 41), (1, .int a1), (2, .long a2), (4, .long a4), (6, .long a6), (8, .long a8)], [.long y1], rf_MM w m1)
        obtain rfl := Option.some.inj hg
        exact rf_lret C hE (by decide +kernel)
      · replace hg := (if_neg hc).symm.trans hg
        refine rf_seg C [(.lload 6, 2), (.lload 4, 2), (.lmul, 1), (.lload 2, 1), (.lload 8, 2), (.lmul, 1), (.lsub, 1)] (pc' := 138) (S' := ([(10, .long x0), (0, .ref 41), (1, .int a1), (2, .long a2), (4, .long a4), (6, .long a6), (8, .long a8)], [.long ((a6 * a4) - (a2 * a8)), .long 1000], rf_MM w m)) (by decide +kernel) rfl trivial ?_
        refine rf_goto C 16 154 (by decide +kernel) ?_
        refine rf_seg C [(.lmul, 1), (.lload 10, 2)] (pc' := 157) (S' := ([(10, .long x0), (0, .ref 41), (1, .int a1), (2, .long a2), (4, .long a4), (6, .long a6), (8, .long a8)], [.long x0, .long (1000 * ((a6 * a4) - (a2 * a8)))], rf_MM w m)) (by decide +kernel) rfl trivial ?_
        obtain ⟨y2, m2, hc2, hg⟩ := rf_b_some hg
        refine rf_calls C rf_fit0 j_J9_floorDiv_f86c9 (As := [.long (1000 * ((a6 * a4) - (a2 * a8))), .long x0]) (rest := []) mw_J9_floorDiv_f86c9 (c_J9_floorDiv_f86c9 hc2) (by decide) lk_6_77 rfl rfl (Nat.le_of_ble_eq_true rfl) (by decide +kernel) ?_
        show rf_V 12 (rf_sh w) K 0 0 160 ([(10, .long x0), (0, .ref 41), (1, .int a1), (2, .long a2), (4, .long a4), (6, .long a6), (8, .long a8)], [.long y2], rf_MM w m2)
        obtain rfl := Option.some.inj hg
        exact rf_lret C hE (by decide +kernel)
    · replace hg := (if_neg hc).symm.trans hg
      refine rf_seg C [(.goto_w (-9223372036854775808), 3)] (pc' := 120) (S' := ([(10, .long x0), (0, .ref 41), (1, .int a1), (2, .long a2), (4, .long a4), (6, .long a6), (8, .long a8)], [.long ((-9223372036854775808))], rf_MM w m)) (by decide +kernel) rfl trivial ?_
      obtain rfl := Option.some.inj hg
      exact rf_lret C hE (by decide +kernel)
  · replace hg := (if_neg hc).symm.trans hg
    obtain ⟨q3, hg⟩ := rf_g_some hg
    refine rf_seg C [(.lload 2, 1), (.aload 0, 1), (.invokeinterface 6 9, 3), (.iload 10, 2), (.iaload, 1), (.i2l, 1), (.ladd, 1)] (pc' := 33) (S' := ([(0, .ref 41), (1, .int a1), (2, .long a2), (4, .long a4), (6, .long a6), (8, .long a8), (10, .int a10)], [.long (a2 + (Int32.toInt64 (m.1 48 (Int32.toNatClampNeg a10))))], rf_MM w m)) (by decide +kernel) rfl (rf_in_of q3) ?_
    obtain ⟨x4, hx4, hg⟩ := rf_vl_some hg
    refine rf_vl_top hx4 ?_
    obtain ⟨q5, hg⟩ := rf_g_some hg
    refine rf_seg C [(.lstore 2, 1), (.lload 4, 2), (.aload 0, 1), (.invokeinterface 6 10, 3), (.iload 10, 2), (.iaload, 1), (.i2l, 1), (.ladd, 1)] (pc' := 45) (S' := ([(2, .long x4), (0, .ref 41), (1, .int a1), (4, .long a4), (6, .long a6), (8, .long a8), (10, .int a10)], [.long (a4 + (Int32.toInt64 (m.1 49 (Int32.toNatClampNeg a10))))], rf_MM w m)) (by decide +kernel) rfl (rf_in_of q5) ?_
    obtain ⟨x6, hx6, hg⟩ := rf_vl_some hg
    refine rf_vl_top hx6 ?_
    obtain ⟨q7, hg⟩ := rf_g_some hg
    obtain ⟨q8, hg⟩ := rf_g_some hg
    refine rf_seg C [(.lstore 4, 2), (.lload 6, 2), (.aload 0, 1), (.invokeinterface 6 9, 3), (.iload 10, 2), (.iaload, 1), (.aload 0, 1), (.invokeinterface 6 9, 3), (.iload 10, 2), (.iaload, 1), (.imul, 1), (.i2l, 1), (.ladd, 1)] (pc' := 66) (S' := ([(4, .long x6), (2, .long x4), (0, .ref 41), (1, .int a1), (6, .long a6), (8, .long a8), (10, .int a10)], [.long (a6 + (Int32.toInt64 ((m.1 48 (Int32.toNatClampNeg a10)) * (m.1 48 (Int32.toNatClampNeg a10)))))], rf_MM w m)) (by decide +kernel) rfl (by exact ⟨(rf_in_of q7), (rf_in_of q8)⟩) ?_
    obtain ⟨x9, hx9, hg⟩ := rf_vl_some hg
    refine rf_vl_top hx9 ?_
    obtain ⟨q10, hg⟩ := rf_g_some hg
    obtain ⟨q11, hg⟩ := rf_g_some hg
    refine rf_seg C [(.lstore 6, 2), (.lload 8, 2), (.aload 0, 1), (.invokeinterface 6 9, 3), (.iload 10, 2), (.iaload, 1), (.i2l, 1), (.aload 0, 1), (.invokeinterface 6 10, 3), (.iload 10, 2), (.iaload, 1), (.i2l, 1), (.lmul, 1), (.ladd, 1)] (pc' := 88) (S' := ([(6, .long x9), (4, .long x6), (2, .long x4), (0, .ref 41), (1, .int a1), (8, .long a8), (10, .int a10)], [.long (a8 + ((Int32.toInt64 (m.1 48 (Int32.toNatClampNeg a10))) * (Int32.toInt64 (m.1 49 (Int32.toNatClampNeg a10)))))], rf_MM w m)) (by decide +kernel) rfl (by exact ⟨(rf_in_of q10), (rf_in_of q11)⟩) ?_
    obtain ⟨x12, hx12, hg⟩ := rf_vl_some hg
    refine rf_vl_top hx12 ?_
    refine rf_seg C [(.lstore 8, 2), (.iinc 10 1, 3)] (pc' := 93) (S' := ([(10, .int (a10 + 1)), (8, .long x12), (6, .long x9), (4, .long x6), (2, .long x4), (0, .ref 41), (1, .int a1)], [], rf_MM w m)) (by decide +kernel) rfl trivial ?_
    refine rf_goto C (-79) 14 (by decide +kernel) ?_
    refine rf_few [5, 6, 4, 3, 2, 1, 0] rfl ?_
    exact hr14 a1 x4 x6 x9 x12 (a10 + 1) m hg
theorem s_X6_fit_14 {w : rf_w} {K : rf_K} {r : Int64 × rf_m} (C : rf_Ctx 6 cX6_fit 12 2 (rf_sh w) K) (hE : rf_End (some .long) K (rf_sh w) 0 0 (some (.long r.1)) (rf_MM w r.2)) (n : Nat) : ∀ (a1 : Int32) (a2 : Int64) (a4 : Int64) (a6 : Int64) (a8 : Int64) (a10 : Int32) (m : rf_m), g_X6_fit_14 w n a1 a2 a4 a6 a8 a10 m = some r → rf_V 12 (rf_sh w) K 0 0 14 ([(0, .ref 41), (1, .int a1), (2, .long a2), (4, .long a4), (6, .long a6), (8, .long a8), (10, .int a10)], [], rf_MM w m) := by
  induction n with
  | zero => intro a1 a2 a4 a6 a8 a10 m hg; cases hg
  | succ n ih => intro a1 a2 a4 a6 a8 a10 m hg; exact s_X6_fit_14_b C hE ih a1 a2 a4 a6 a8 a10 m hg
theorem c_X6_fit {w : rf_w} {m : rf_m} {a1 : Int32} {r : Int64 × rf_m} (hg : g_X6_fit w m a1 = some r) : rf_Con j_X6_fit 2 (rf_sh w) [.ref 41, .int a1] (rf_MM w m) (some (.long r.1)) (rf_MM w r.2) := by
  refine rf_con j_X6_fit 2 ⟨by decide +kernel, rfl, Nat.le_of_ble_eq_true rfl⟩ (fun K C hE => ?_)
  unfold g_X6_fit at hg
  show rf_V 12 (rf_sh w) K 0 0 0 ([(0, .ref 41), (1, .int a1)], [], rf_MM w m)
  refine rf_seg C [(.goto_w 0, 1), (.lstore 2, 1), (.goto_w 0, 1), (.lstore 4, 2), (.goto_w 0, 1), (.lstore 6, 2), (.goto_w 0, 1), (.lstore 8, 2), (.iconst 0, 1), (.istore 10, 2)] (pc' := 14) (S' := ([(10, .int 0), (8, .long 0), (6, .long 0), (4, .long 0), (2, .long 0), (0, .ref 41), (1, .int a1)], [], rf_MM w m)) (by decide +kernel) rfl trivial ?_
  refine rf_few [5, 6, 4, 3, 2, 1, 0] rfl ?_
  exact s_X6_fit_14 C hE rf_fuel a1 0 0 0 0 0 m hg
-- X7_isTriangle
abbrev j_X7_isTriangle : rf_J := (7, yX7_isTriangle, cX7_isTriangle, 2, (some .boolean))
theorem mw_X7_isTriangle : rf_mv j_X7_isTriangle (rf_R 7) 1 := ⟨⟨rf_mem 60 (by decide +kernel), rf_mem 60 (by decide +kernel), rf_mem 1 (by decide +kernel), rf_mem 60 (by decide +kernel)⟩, by decide +kernel, by decide⟩
def g_X7_isTriangle (w : rf_w) (m : rf_m) (a1 : Int32) : Option (Int32 × rf_m) := (if a1 < 0 then some (0, m) else (if (m.1 50 0) ≤ a1 then some (0, m) else some (1, m)))
theorem c_X7_isTriangle {w : rf_w} {m : rf_m} {a1 : Int32} {r : Int32 × rf_m} (hg : g_X7_isTriangle w m a1 = some r) : rf_Con j_X7_isTriangle 1 (rf_sh w) [.ref 50, .int a1] (rf_MM w m) (some (.int r.1)) (rf_MM w r.2) := by
  refine rf_con j_X7_isTriangle 1 ⟨by decide +kernel, rfl, Nat.le_of_ble_eq_true rfl⟩ (fun K C hE => ?_)
  unfold g_X7_isTriangle at hg
  show rf_V 2 (rf_sh w) K 0 0 0 ([(0, .ref 50), (1, .int a1)], [], rf_MM w m)
  refine rf_seg C [(.iload 1, 1)] (pc' := 1) (S' := ([(0, .ref 50), (1, .int a1)], [.int a1], rf_MM w m)) (by decide +kernel) rfl trivial ?_
  refine rf_if_lt C 15 16 (by decide +kernel) (fun hc => ?_) (fun hc => ?_)
  · replace hg := (if_pos hc).symm.trans hg
    refine rf_seg C [(.iconst 0, 1)] (pc' := 17) (S' := ([(0, .ref 50), (1, .int a1)], [.int 0], rf_MM w m)) (by decide +kernel) rfl trivial ?_
    obtain rfl := Option.some.inj hg
    exact rf_zret C hE (by decide) (by decide +kernel)
  · replace hg := (if_neg hc).symm.trans hg
    refine rf_seg C [(.iload 1, 1), (.aload 0, 1), (.invokeinterface 7 0, 3)] (pc' := 9) (S' := ([(0, .ref 50), (1, .int a1)], [.int (m.1 50 0), .int a1], rf_MM w m)) (by decide +kernel) rfl trivial ?_
    refine rf_icmp_ge C 7 16 (by decide +kernel) (fun hc => ?_) (fun hc => ?_)
    · replace hg := (if_pos hc).symm.trans hg
      refine rf_seg C [(.iconst 0, 1)] (pc' := 17) (S' := ([(0, .ref 50), (1, .int a1)], [.int 0], rf_MM w m)) (by decide +kernel) rfl trivial ?_
      obtain rfl := Option.some.inj hg
      exact rf_zret C hE (by decide) (by decide +kernel)
    · replace hg := (if_neg hc).symm.trans hg
      refine rf_seg C [(.iconst 1, 1)] (pc' := 13) (S' := ([(0, .ref 50), (1, .int a1)], [.int 1], rf_MM w m)) (by decide +kernel) rfl trivial ?_
      refine rf_goto C 4 17 (by decide +kernel) ?_
      obtain rfl := Option.some.inj hg
      exact rf_zret C hE (by decide) (by decide +kernel)
-- X7_looksAt
abbrev j_X7_looksAt : rf_J := (7, yX7_looksAt, cX7_looksAt, 4, (some .boolean))
theorem mw_X7_looksAt : rf_mv j_X7_looksAt (rf_R 7) 3 := ⟨⟨rf_mem 57 (by decide +kernel), rf_mem 57 (by decide +kernel), rf_mem 1 (by decide +kernel), rf_mem 58 (by decide +kernel)⟩, by decide +kernel, by decide⟩
def g_X7_looksAt_26 (w : rf_w) (a1 : Int32) (a2 : Int32) (a3 : Int32) (m : rf_m) : Option (Int32 × rf_m) := rf_g (rf_in a1 80) ((if (m.1 29 (Int32.toNatClampNeg a1)) = a3 then rf_g (rf_in a1 80) ((if (m.1 30 (Int32.toNatClampNeg a1)) = a2 then some (1, m) else some (0, m))) else some (0, m)))
def g_X7_looksAt (w : rf_w) (m : rf_m) (a1 : Int32) (a2 : Int32) (a3 : Int32) : Option (Int32 × rf_m) := rf_g (rf_in a1 80) ((if (m.1 29 (Int32.toNatClampNeg a1)) = a2 then rf_g (rf_in a1 80) ((if (m.1 30 (Int32.toNatClampNeg a1)) = a3 then some (1, m) else g_X7_looksAt_26 w a1 a2 a3 m)) else g_X7_looksAt_26 w a1 a2 a3 m))
theorem s_X7_looksAt_26 {w : rf_w} {K : rf_K} {r : Int32 × rf_m} (C : rf_Ctx 7 cX7_looksAt 4 1 (rf_sh w) K) (hE : rf_End (some .boolean) K (rf_sh w) 0 0 (some (.int r.1)) (rf_MM w r.2)) (a1 : Int32) (a2 : Int32) (a3 : Int32) (m : rf_m) (hg : g_X7_looksAt_26 w a1 a2 a3 m = some r) : rf_V 4 (rf_sh w) K 0 0 26 ([(0, .ref 50), (1, .int a1), (2, .int a2), (3, .int a3)], [], rf_MM w m) := by
  unfold g_X7_looksAt_26 at hg
  obtain ⟨q0, hg⟩ := rf_g_some hg
  refine rf_seg C [(.aload 0, 1), (.invokeinterface 7 2, 3), (.invokeinterface 3 2, 3), (.iload 1, 1), (.iaload, 1), (.iload 3, 1)] (pc' := 36) (S' := ([(0, .ref 50), (1, .int a1), (2, .int a2), (3, .int a3)], [.int a3, .int (m.1 29 (Int32.toNatClampNeg a1))], rf_MM w m)) (by decide +kernel) rfl (rf_in_of q0) ?_
  refine rf_icmp_ne C 20 56 (by decide +kernel) (fun hc => ?_) (fun hc => ?_)
  · replace hg := (if_neg hc).symm.trans hg
    refine rf_seg C [(.iconst 0, 1)] (pc' := 57) (S' := ([(0, .ref 50), (1, .int a1), (2, .int a2), (3, .int a3)], [.int 0], rf_MM w m)) (by decide +kernel) rfl trivial ?_
    obtain rfl := Option.some.inj hg
    exact rf_zret C hE (by decide) (by decide +kernel)
  · replace hg := (if_pos hc).symm.trans hg
    obtain ⟨q1, hg⟩ := rf_g_some hg
    refine rf_seg C [(.aload 0, 1), (.invokeinterface 7 2, 3), (.invokeinterface 3 3, 3), (.iload 1, 1), (.iaload, 1), (.iload 2, 1)] (pc' := 49) (S' := ([(0, .ref 50), (1, .int a1), (2, .int a2), (3, .int a3)], [.int a2, .int (m.1 30 (Int32.toNatClampNeg a1))], rf_MM w m)) (by decide +kernel) rfl (rf_in_of q1) ?_
    refine rf_icmp_ne C 7 56 (by decide +kernel) (fun hc => ?_) (fun hc => ?_)
    · replace hg := (if_neg hc).symm.trans hg
      refine rf_seg C [(.iconst 0, 1)] (pc' := 57) (S' := ([(0, .ref 50), (1, .int a1), (2, .int a2), (3, .int a3)], [.int 0], rf_MM w m)) (by decide +kernel) rfl trivial ?_
      obtain rfl := Option.some.inj hg
      exact rf_zret C hE (by decide) (by decide +kernel)
    · replace hg := (if_pos hc).symm.trans hg
      refine rf_seg C [(.iconst 1, 1)] (pc' := 53) (S' := ([(0, .ref 50), (1, .int a1), (2, .int a2), (3, .int a3)], [.int 1], rf_MM w m)) (by decide +kernel) rfl trivial ?_
      refine rf_goto C 4 57 (by decide +kernel) ?_
      obtain rfl := Option.some.inj hg
      exact rf_zret C hE (by decide) (by decide +kernel)
theorem c_X7_looksAt {w : rf_w} {m : rf_m} {a1 : Int32} {a2 : Int32} {a3 : Int32} {r : Int32 × rf_m} (hg : g_X7_looksAt w m a1 a2 a3 = some r) : rf_Con j_X7_looksAt 1 (rf_sh w) [.ref 50, .int a1, .int a2, .int a3] (rf_MM w m) (some (.int r.1)) (rf_MM w r.2) := by
  refine rf_con j_X7_looksAt 1 ⟨by decide +kernel, rfl, Nat.le_of_ble_eq_true rfl⟩ (fun K C hE => ?_)
  unfold g_X7_looksAt at hg
  show rf_V 4 (rf_sh w) K 0 0 0 ([(0, .ref 50), (1, .int a1), (2, .int a2), (3, .int a3)], [], rf_MM w m)
  obtain ⟨q0, hg⟩ := rf_g_some hg
  refine rf_seg C [(.aload 0, 1), (.invokeinterface 7 2, 3), (.invokeinterface 3 2, 3), (.iload 1, 1), (.iaload, 1), (.iload 2, 1)] (pc' := 10) (S' := ([(0, .ref 50), (1, .int a1), (2, .int a2), (3, .int a3)], [.int a2, .int (m.1 29 (Int32.toNatClampNeg a1))], rf_MM w m)) (by decide +kernel) rfl (rf_in_of q0) ?_
  refine rf_icmp_ne C 16 26 (by decide +kernel) (fun hc => ?_) (fun hc => ?_)
  · replace hg := (if_neg hc).symm.trans hg
    refine rf_few [0, 1, 2, 3] rfl ?_
    exact s_X7_looksAt_26 C hE a1 a2 a3 m hg
  · replace hg := (if_pos hc).symm.trans hg
    obtain ⟨q1, hg⟩ := rf_g_some hg
    refine rf_seg C [(.aload 0, 1), (.invokeinterface 7 2, 3), (.invokeinterface 3 3, 3), (.iload 1, 1), (.iaload, 1), (.iload 3, 1)] (pc' := 23) (S' := ([(0, .ref 50), (1, .int a1), (2, .int a2), (3, .int a3)], [.int a3, .int (m.1 30 (Int32.toNatClampNeg a1))], rf_MM w m)) (by decide +kernel) rfl (rf_in_of q1) ?_
    refine rf_icmp_eq C 29 52 (by decide +kernel) (fun hc => ?_) (fun hc => ?_)
    · replace hg := (if_pos hc).symm.trans hg
      refine rf_seg C [(.iconst 1, 1)] (pc' := 53) (S' := ([(0, .ref 50), (1, .int a1), (2, .int a2), (3, .int a3)], [.int 1], rf_MM w m)) (by decide +kernel) rfl trivial ?_
      refine rf_goto C 4 57 (by decide +kernel) ?_
      obtain rfl := Option.some.inj hg
      exact rf_zret C hE (by decide) (by decide +kernel)
    · replace hg := (if_neg hc).symm.trans hg
      refine rf_few [0, 1, 2, 3] rfl ?_
      exact s_X7_looksAt_26 C hE a1 a2 a3 m hg
-- X7_isTriangular
abbrev j_X7_isTriangular : rf_J := (7, yX7_isTriangular, cX7_isTriangular, 4, (some .boolean))
theorem mw_X7_isTriangular : rf_mv j_X7_isTriangular (rf_R 7) 3 := ⟨⟨rf_mem 57 (by decide +kernel), rf_mem 57 (by decide +kernel), rf_mem 1 (by decide +kernel), rf_mem 57 (by decide +kernel)⟩, by decide +kernel, by decide⟩
def g_X7_isTriangular (w : rf_w) (m : rf_m) (a1 : Int32) (a2 : Int32) (a3 : Int32) : Option (Int32 × rf_m) := rf_g (rf_in a2 80) (rf_g (rf_in a3 80) (rf_b (g_X7_looksAt w m a1 (m.1 28 (Int32.toNatClampNeg a2)) (m.1 28 (Int32.toNatClampNeg a3))) fun y2 m2 => (if y2 = 0 then some (0, m2) else rf_g (rf_in a3 80) (rf_g (rf_in a1 80) (rf_b (g_X7_looksAt w m2 a2 (m2.1 28 (Int32.toNatClampNeg a3)) (m2.1 28 (Int32.toNatClampNeg a1))) fun y5 m5 => (if y5 = 0 then some (0, m5) else rf_g (rf_in a1 80) (rf_g (rf_in a2 80) (rf_b (g_X7_looksAt w m5 a3 (m5.1 28 (Int32.toNatClampNeg a1)) (m5.1 28 (Int32.toNatClampNeg a2))) fun y8 m8 => (if y8 = 0 then some (0, m8) else some (1, m8))))))))))
theorem c_X7_isTriangular {w : rf_w} {m : rf_m} {a1 : Int32} {a2 : Int32} {a3 : Int32} {r : Int32 × rf_m} (hg : g_X7_isTriangular w m a1 a2 a3 = some r) : rf_Con j_X7_isTriangular 2 (rf_sh w) [.ref 50, .int a1, .int a2, .int a3] (rf_MM w m) (some (.int r.1)) (rf_MM w r.2) := by
  refine rf_con j_X7_isTriangular 2 ⟨by decide +kernel, rfl, Nat.le_of_ble_eq_true rfl⟩ (fun K C hE => ?_)
  unfold g_X7_isTriangular at hg
  show rf_V 4 (rf_sh w) K 0 0 0 ([(0, .ref 50), (1, .int a1), (2, .int a2), (3, .int a3)], [], rf_MM w m)
  obtain ⟨q0, hg⟩ := rf_g_some hg
  obtain ⟨q1, hg⟩ := rf_g_some hg
  refine rf_seg C [(.aload 0, 1), (.iload 1, 1), (.aload 0, 1), (.invokeinterface 7 2, 3), (.invokeinterface 3 1, 3), (.iload 2, 1), (.iaload, 1), (.aload 0, 1), (.invokeinterface 7 2, 3), (.invokeinterface 3 1, 3), (.iload 3, 1), (.iaload, 1)] (pc' := 20) (S' := ([(0, .ref 50), (1, .int a1), (2, .int a2), (3, .int a3)], [.int (m.1 28 (Int32.toNatClampNeg a3)), .int (m.1 28 (Int32.toNatClampNeg a2)), .int a1, .ref 50], rf_MM w m)) (by decide +kernel) rfl (by exact ⟨(rf_in_of q0), (rf_in_of q1)⟩) ?_
  obtain ⟨y2, m2, hc2, hg⟩ := rf_b_some hg
  refine rf_callv C rf_fit0 j_X7_looksAt (ci := 7) (As := [.int a1, .int (m.1 28 (Int32.toNatClampNeg a2)), .int (m.1 28 (Int32.toNatClampNeg a3))]) (rest := []) mw_X7_looksAt (c_X7_looksAt hc2) (by decide) rfl (by decide) lk_7_37 rfl rfl (Nat.le_of_ble_eq_true rfl) (by decide +kernel) ?_
  show rf_V 4 (rf_sh w) K 0 0 23 ([(0, .ref 50), (1, .int a1), (2, .int a2), (3, .int a3)], [.int y2], rf_MM w m2)
  refine rf_if_eq C 59 82 (by decide +kernel) (fun hc => ?_) (fun hc => ?_)
  · replace hg := (if_pos hc).symm.trans hg
    refine rf_seg C [(.iconst 0, 1)] (pc' := 83) (S' := ([(0, .ref 50), (1, .int a1), (2, .int a2), (3, .int a3)], [.int 0], rf_MM w m2)) (by decide +kernel) rfl trivial ?_
    obtain rfl := Option.some.inj hg
    exact rf_zret C hE (by decide) (by decide +kernel)
  · replace hg := (if_neg hc).symm.trans hg
    obtain ⟨q3, hg⟩ := rf_g_some hg
    obtain ⟨q4, hg⟩ := rf_g_some hg
    refine rf_seg C [(.aload 0, 1), (.iload 2, 1), (.aload 0, 1), (.invokeinterface 7 2, 3), (.invokeinterface 3 1, 3), (.iload 3, 1), (.iaload, 1), (.aload 0, 1), (.invokeinterface 7 2, 3), (.invokeinterface 3 1, 3), (.iload 1, 1), (.iaload, 1)] (pc' := 46) (S' := ([(0, .ref 50), (1, .int a1), (2, .int a2), (3, .int a3)], [.int (m2.1 28 (Int32.toNatClampNeg a1)), .int (m2.1 28 (Int32.toNatClampNeg a3)), .int a2, .ref 50], rf_MM w m2)) (by decide +kernel) rfl (by exact ⟨(rf_in_of q3), (rf_in_of q4)⟩) ?_
    obtain ⟨y5, m5, hc5, hg⟩ := rf_b_some hg
    refine rf_callv C rf_fit0 j_X7_looksAt (ci := 7) (As := [.int a2, .int (m2.1 28 (Int32.toNatClampNeg a3)), .int (m2.1 28 (Int32.toNatClampNeg a1))]) (rest := []) mw_X7_looksAt (c_X7_looksAt hc5) (by decide) rfl (by decide) lk_7_37 rfl rfl (Nat.le_of_ble_eq_true rfl) (by decide +kernel) ?_
    show rf_V 4 (rf_sh w) K 0 0 49 ([(0, .ref 50), (1, .int a1), (2, .int a2), (3, .int a3)], [.int y5], rf_MM w m5)
    refine rf_if_eq C 33 82 (by decide +kernel) (fun hc => ?_) (fun hc => ?_)
    · replace hg := (if_pos hc).symm.trans hg
      refine rf_seg C [(.iconst 0, 1)] (pc' := 83) (S' := ([(0, .ref 50), (1, .int a1), (2, .int a2), (3, .int a3)], [.int 0], rf_MM w m5)) (by decide +kernel) rfl trivial ?_
      obtain rfl := Option.some.inj hg
      exact rf_zret C hE (by decide) (by decide +kernel)
    · replace hg := (if_neg hc).symm.trans hg
      obtain ⟨q6, hg⟩ := rf_g_some hg
      obtain ⟨q7, hg⟩ := rf_g_some hg
      refine rf_seg C [(.aload 0, 1), (.iload 3, 1), (.aload 0, 1), (.invokeinterface 7 2, 3), (.invokeinterface 3 1, 3), (.iload 1, 1), (.iaload, 1), (.aload 0, 1), (.invokeinterface 7 2, 3), (.invokeinterface 3 1, 3), (.iload 2, 1), (.iaload, 1)] (pc' := 72) (S' := ([(0, .ref 50), (1, .int a1), (2, .int a2), (3, .int a3)], [.int (m5.1 28 (Int32.toNatClampNeg a2)), .int (m5.1 28 (Int32.toNatClampNeg a1)), .int a3, .ref 50], rf_MM w m5)) (by decide +kernel) rfl (by exact ⟨(rf_in_of q6), (rf_in_of q7)⟩) ?_
      obtain ⟨y8, m8, hc8, hg⟩ := rf_b_some hg
      refine rf_callv C rf_fit0 j_X7_looksAt (ci := 7) (As := [.int a3, .int (m5.1 28 (Int32.toNatClampNeg a1)), .int (m5.1 28 (Int32.toNatClampNeg a2))]) (rest := []) mw_X7_looksAt (c_X7_looksAt hc8) (by decide) rfl (by decide) lk_7_37 rfl rfl (Nat.le_of_ble_eq_true rfl) (by decide +kernel) ?_
      show rf_V 4 (rf_sh w) K 0 0 75 ([(0, .ref 50), (1, .int a1), (2, .int a2), (3, .int a3)], [.int y8], rf_MM w m8)
      refine rf_if_eq C 7 82 (by decide +kernel) (fun hc => ?_) (fun hc => ?_)
      · replace hg := (if_pos hc).symm.trans hg
        refine rf_seg C [(.iconst 0, 1)] (pc' := 83) (S' := ([(0, .ref 50), (1, .int a1), (2, .int a2), (3, .int a3)], [.int 0], rf_MM w m8)) (by decide +kernel) rfl trivial ?_
        obtain rfl := Option.some.inj hg
        exact rf_zret C hE (by decide) (by decide +kernel)
      · replace hg := (if_neg hc).symm.trans hg
        refine rf_seg C [(.iconst 1, 1)] (pc' := 79) (S' := ([(0, .ref 50), (1, .int a1), (2, .int a2), (3, .int a3)], [.int 1], rf_MM w m8)) (by decide +kernel) rfl trivial ?_
        refine rf_goto C 4 83 (by decide +kernel) ?_
        obtain rfl := Option.some.inj hg
        exact rf_zret C hE (by decide) (by decide +kernel)
-- X7_addTriangle
abbrev j_X7_addTriangle : rf_J := (7, yX7_addTriangle, cX7_addTriangle, 5, (some .int))
theorem mw_X7_addTriangle : rf_mv j_X7_addTriangle (rf_R 7) 4 := ⟨⟨rf_mem 58 (by decide +kernel), rf_mem 58 (by decide +kernel), rf_mem 1 (by decide +kernel), rf_mem 58 (by decide +kernel)⟩, by decide +kernel, by decide⟩
def g_X7_addTriangle (w : rf_w) (m : rf_m) (a1 : Int32) (a2 : Int32) (a3 : Int32) (a4 : Int32) : Option (Int32 × rf_m) := rf_g (rf_in ((m.1 50 0) * 3) 90) (rf_g (rf_in ((((rf_i m 51 (Int32.toNatClampNeg ((m.1 50 0) * 3)) a1).1 50 0) * 3) + 1) 90) (rf_g (rf_in ((((rf_i (rf_i m 51 (Int32.toNatClampNeg ((m.1 50 0) * 3)) a1) 51 (Int32.toNatClampNeg ((((rf_i m 51 (Int32.toNatClampNeg ((m.1 50 0) * 3)) a1).1 50 0) * 3) + 1)) a2).1 50 0) * 3) + 2) 90) (rf_g (rf_in ((rf_i (rf_i (rf_i m 51 (Int32.toNatClampNeg ((m.1 50 0) * 3)) a1) 51 (Int32.toNatClampNeg ((((rf_i m 51 (Int32.toNatClampNeg ((m.1 50 0) * 3)) a1).1 50 0) * 3) + 1)) a2) 51 (Int32.toNatClampNeg ((((rf_i (rf_i m 51 (Int32.toNatClampNeg ((m.1 50 0) * 3)) a1) 51 (Int32.toNatClampNeg ((((rf_i m 51 (Int32.toNatClampNeg ((m.1 50 0) * 3)) a1).1 50 0) * 3) + 1)) a2).1 50 0) * 3) + 2)) a3).1 50 0) 30) (some (((rf_i (rf_i (rf_i (rf_i (rf_i m 51 (Int32.toNatClampNeg ((m.1 50 0) * 3)) a1) 51 (Int32.toNatClampNeg ((((rf_i m 51 (Int32.toNatClampNeg ((m.1 50 0) * 3)) a1).1 50 0) * 3) + 1)) a2) 51 (Int32.toNatClampNeg ((((rf_i (rf_i m 51 (Int32.toNatClampNeg ((m.1 50 0) * 3)) a1) 51 (Int32.toNatClampNeg ((((rf_i m 51 (Int32.toNatClampNeg ((m.1 50 0) * 3)) a1).1 50 0) * 3) + 1)) a2).1 50 0) * 3) + 2)) a3) 52 (Int32.toNatClampNeg ((rf_i (rf_i (rf_i m 51 (Int32.toNatClampNeg ((m.1 50 0) * 3)) a1) 51 (Int32.toNatClampNeg ((((rf_i m 51 (Int32.toNatClampNeg ((m.1 50 0) * 3)) a1).1 50 0) * 3) + 1)) a2) 51 (Int32.toNatClampNeg ((((rf_i (rf_i m 51 (Int32.toNatClampNeg ((m.1 50 0) * 3)) a1) 51 (Int32.toNatClampNeg ((((rf_i m 51 (Int32.toNatClampNeg ((m.1 50 0) * 3)) a1).1 50 0) * 3) + 1)) a2).1 50 0) * 3) + 2)) a3).1 50 0)) a4) 50 0 (((rf_i (rf_i (rf_i (rf_i m 51 (Int32.toNatClampNeg ((m.1 50 0) * 3)) a1) 51 (Int32.toNatClampNeg ((((rf_i m 51 (Int32.toNatClampNeg ((m.1 50 0) * 3)) a1).1 50 0) * 3) + 1)) a2) 51 (Int32.toNatClampNeg ((((rf_i (rf_i m 51 (Int32.toNatClampNeg ((m.1 50 0) * 3)) a1) 51 (Int32.toNatClampNeg ((((rf_i m 51 (Int32.toNatClampNeg ((m.1 50 0) * 3)) a1).1 50 0) * 3) + 1)) a2).1 50 0) * 3) + 2)) a3) 52 (Int32.toNatClampNeg ((rf_i (rf_i (rf_i m 51 (Int32.toNatClampNeg ((m.1 50 0) * 3)) a1) 51 (Int32.toNatClampNeg ((((rf_i m 51 (Int32.toNatClampNeg ((m.1 50 0) * 3)) a1).1 50 0) * 3) + 1)) a2) 51 (Int32.toNatClampNeg ((((rf_i (rf_i m 51 (Int32.toNatClampNeg ((m.1 50 0) * 3)) a1) 51 (Int32.toNatClampNeg ((((rf_i m 51 (Int32.toNatClampNeg ((m.1 50 0) * 3)) a1).1 50 0) * 3) + 1)) a2).1 50 0) * 3) + 2)) a3).1 50 0)) a4).1 50 0) + 1)).1 50 0) - 1, rf_i (rf_i (rf_i (rf_i (rf_i m 51 (Int32.toNatClampNeg ((m.1 50 0) * 3)) a1) 51 (Int32.toNatClampNeg ((((rf_i m 51 (Int32.toNatClampNeg ((m.1 50 0) * 3)) a1).1 50 0) * 3) + 1)) a2) 51 (Int32.toNatClampNeg ((((rf_i (rf_i m 51 (Int32.toNatClampNeg ((m.1 50 0) * 3)) a1) 51 (Int32.toNatClampNeg ((((rf_i m 51 (Int32.toNatClampNeg ((m.1 50 0) * 3)) a1).1 50 0) * 3) + 1)) a2).1 50 0) * 3) + 2)) a3) 52 (Int32.toNatClampNeg ((rf_i (rf_i (rf_i m 51 (Int32.toNatClampNeg ((m.1 50 0) * 3)) a1) 51 (Int32.toNatClampNeg ((((rf_i m 51 (Int32.toNatClampNeg ((m.1 50 0) * 3)) a1).1 50 0) * 3) + 1)) a2) 51 (Int32.toNatClampNeg ((((rf_i (rf_i m 51 (Int32.toNatClampNeg ((m.1 50 0) * 3)) a1) 51 (Int32.toNatClampNeg ((((rf_i m 51 (Int32.toNatClampNeg ((m.1 50 0) * 3)) a1).1 50 0) * 3) + 1)) a2).1 50 0) * 3) + 2)) a3).1 50 0)) a4) 50 0 (((rf_i (rf_i (rf_i (rf_i m 51 (Int32.toNatClampNeg ((m.1 50 0) * 3)) a1) 51 (Int32.toNatClampNeg ((((rf_i m 51 (Int32.toNatClampNeg ((m.1 50 0) * 3)) a1).1 50 0) * 3) + 1)) a2) 51 (Int32.toNatClampNeg ((((rf_i (rf_i m 51 (Int32.toNatClampNeg ((m.1 50 0) * 3)) a1) 51 (Int32.toNatClampNeg ((((rf_i m 51 (Int32.toNatClampNeg ((m.1 50 0) * 3)) a1).1 50 0) * 3) + 1)) a2).1 50 0) * 3) + 2)) a3) 52 (Int32.toNatClampNeg ((rf_i (rf_i (rf_i m 51 (Int32.toNatClampNeg ((m.1 50 0) * 3)) a1) 51 (Int32.toNatClampNeg ((((rf_i m 51 (Int32.toNatClampNeg ((m.1 50 0) * 3)) a1).1 50 0) * 3) + 1)) a2) 51 (Int32.toNatClampNeg ((((rf_i (rf_i m 51 (Int32.toNatClampNeg ((m.1 50 0) * 3)) a1) 51 (Int32.toNatClampNeg ((((rf_i m 51 (Int32.toNatClampNeg ((m.1 50 0) * 3)) a1).1 50 0) * 3) + 1)) a2).1 50 0) * 3) + 2)) a3).1 50 0)) a4).1 50 0) + 1))))))
theorem c_X7_addTriangle {w : rf_w} {m : rf_m} {a1 : Int32} {a2 : Int32} {a3 : Int32} {a4 : Int32} {r : Int32 × rf_m} (hg : g_X7_addTriangle w m a1 a2 a3 a4 = some r) : rf_Con j_X7_addTriangle 1 (rf_sh w) [.ref 50, .int a1, .int a2, .int a3, .int a4] (rf_MM w m) (some (.int r.1)) (rf_MM w r.2) := by
  refine rf_con j_X7_addTriangle 1 ⟨by decide +kernel, rfl, Nat.le_of_ble_eq_true rfl⟩ (fun K C hE => ?_)
  unfold g_X7_addTriangle at hg
  show rf_V 5 (rf_sh w) K 0 0 0 ([(0, .ref 50), (1, .int a1), (2, .int a2), (3, .int a3), (4, .int a4)], [], rf_MM w m)
  obtain ⟨q0, hg⟩ := rf_g_some hg
  obtain ⟨q1, hg⟩ := rf_g_some hg
  obtain ⟨q2, hg⟩ := rf_g_some hg
  obtain ⟨q3, hg⟩ := rf_g_some hg
  refine rf_seg C [(.aload 0, 1), (.invokeinterface 7 3, 3), (.aload 0, 1), (.invokeinterface 7 0, 3), (.iconst 3, 1), (.imul, 1), (.iload 1, 1), (.iastore, 1), (.aload 0, 1), (.invokeinterface 7 3, 3), (.aload 0, 1), (.invokeinterface 7 0, 3), (.iconst 3, 1), (.imul, 1), (.iconst 1, 1), (.iadd, 1), (.iload 2, 1), (.iastore, 1), (.aload 0, 1), (.invokeinterface 7 3, 3), (.aload 0, 1), (.invokeinterface 7 0, 3), (.iconst 3, 1), (.imul, 1), (.iconst 2, 1), (.iadd, 1), (.iload 3, 1), (.iastore, 1), (.aload 0, 1), (.invokeinterface 7 4, 3), (.aload 0, 1), (.invokeinterface 7 0, 3), (.iload 4, 2), (.iastore, 1), (.aload 0, 1), (.dup, 1), (.invokeinterface 7 0, 3), (.iconst 1, 1), (.iadd, 1), (.multianewarray 7 0, 3), (.aload 0, 1), (.invokeinterface 7 0, 3), (.iconst 1, 1), (.isub, 1)] (pc' := 67) (S' := ([(0, .ref 50), (1, .int a1), (2, .int a2), (3, .int a3), (4, .int a4)], [.int (((rf_i (rf_i (rf_i (rf_i (rf_i m 51 (Int32.toNatClampNeg ((m.1 50 0) * 3)) a1) 51 (Int32.toNatClampNeg ((((rf_i m 51 (Int32.toNatClampNeg ((m.1 50 0) * 3)) a1).1 50 0) * 3) + 1)) a2) 51 (Int32.toNatClampNeg ((((rf_i (rf_i m 51 (Int32.toNatClampNeg ((m.1 50 0) * 3)) a1) 51 (Int32.toNatClampNeg ((((rf_i m 51 (Int32.toNatClampNeg ((m.1 50 0) * 3)) a1).1 50 0) * 3) + 1)) a2).1 50 0) * 3) + 2)) a3) 52 (Int32.toNatClampNeg ((rf_i (rf_i (rf_i m 51 (Int32.toNatClampNeg ((m.1 50 0) * 3)) a1) 51 (Int32.toNatClampNeg ((((rf_i m 51 (Int32.toNatClampNeg ((m.1 50 0) * 3)) a1).1 50 0) * 3) + 1)) a2) 51 (Int32.toNatClampNeg ((((rf_i (rf_i m 51 (Int32.toNatClampNeg ((m.1 50 0) * 3)) a1) 51 (Int32.toNatClampNeg ((((rf_i m 51 (Int32.toNatClampNeg ((m.1 50 0) * 3)) a1).1 50 0) * 3) + 1)) a2).1 50 0) * 3) + 2)) a3).1 50 0)) a4) 50 0 (((rf_i (rf_i (rf_i (rf_i m 51 (Int32.toNatClampNeg ((m.1 50 0) * 3)) a1) 51 (Int32.toNatClampNeg ((((rf_i m 51 (Int32.toNatClampNeg ((m.1 50 0) * 3)) a1).1 50 0) * 3) + 1)) a2) 51 (Int32.toNatClampNeg ((((rf_i (rf_i m 51 (Int32.toNatClampNeg ((m.1 50 0) * 3)) a1) 51 (Int32.toNatClampNeg ((((rf_i m 51 (Int32.toNatClampNeg ((m.1 50 0) * 3)) a1).1 50 0) * 3) + 1)) a2).1 50 0) * 3) + 2)) a3) 52 (Int32.toNatClampNeg ((rf_i (rf_i (rf_i m 51 (Int32.toNatClampNeg ((m.1 50 0) * 3)) a1) 51 (Int32.toNatClampNeg ((((rf_i m 51 (Int32.toNatClampNeg ((m.1 50 0) * 3)) a1).1 50 0) * 3) + 1)) a2) 51 (Int32.toNatClampNeg ((((rf_i (rf_i m 51 (Int32.toNatClampNeg ((m.1 50 0) * 3)) a1) 51 (Int32.toNatClampNeg ((((rf_i m 51 (Int32.toNatClampNeg ((m.1 50 0) * 3)) a1).1 50 0) * 3) + 1)) a2).1 50 0) * 3) + 2)) a3).1 50 0)) a4).1 50 0) + 1)).1 50 0) - 1)], rf_MM w (rf_i (rf_i (rf_i (rf_i (rf_i m 51 (Int32.toNatClampNeg ((m.1 50 0) * 3)) a1) 51 (Int32.toNatClampNeg ((((rf_i m 51 (Int32.toNatClampNeg ((m.1 50 0) * 3)) a1).1 50 0) * 3) + 1)) a2) 51 (Int32.toNatClampNeg ((((rf_i (rf_i m 51 (Int32.toNatClampNeg ((m.1 50 0) * 3)) a1) 51 (Int32.toNatClampNeg ((((rf_i m 51 (Int32.toNatClampNeg ((m.1 50 0) * 3)) a1).1 50 0) * 3) + 1)) a2).1 50 0) * 3) + 2)) a3) 52 (Int32.toNatClampNeg ((rf_i (rf_i (rf_i m 51 (Int32.toNatClampNeg ((m.1 50 0) * 3)) a1) 51 (Int32.toNatClampNeg ((((rf_i m 51 (Int32.toNatClampNeg ((m.1 50 0) * 3)) a1).1 50 0) * 3) + 1)) a2) 51 (Int32.toNatClampNeg ((((rf_i (rf_i m 51 (Int32.toNatClampNeg ((m.1 50 0) * 3)) a1) 51 (Int32.toNatClampNeg ((((rf_i m 51 (Int32.toNatClampNeg ((m.1 50 0) * 3)) a1).1 50 0) * 3) + 1)) a2).1 50 0) * 3) + 2)) a3).1 50 0)) a4) 50 0 (((rf_i (rf_i (rf_i (rf_i m 51 (Int32.toNatClampNeg ((m.1 50 0) * 3)) a1) 51 (Int32.toNatClampNeg ((((rf_i m 51 (Int32.toNatClampNeg ((m.1 50 0) * 3)) a1).1 50 0) * 3) + 1)) a2) 51 (Int32.toNatClampNeg ((((rf_i (rf_i m 51 (Int32.toNatClampNeg ((m.1 50 0) * 3)) a1) 51 (Int32.toNatClampNeg ((((rf_i m 51 (Int32.toNatClampNeg ((m.1 50 0) * 3)) a1).1 50 0) * 3) + 1)) a2).1 50 0) * 3) + 2)) a3) 52 (Int32.toNatClampNeg ((rf_i (rf_i (rf_i m 51 (Int32.toNatClampNeg ((m.1 50 0) * 3)) a1) 51 (Int32.toNatClampNeg ((((rf_i m 51 (Int32.toNatClampNeg ((m.1 50 0) * 3)) a1).1 50 0) * 3) + 1)) a2) 51 (Int32.toNatClampNeg ((((rf_i (rf_i m 51 (Int32.toNatClampNeg ((m.1 50 0) * 3)) a1) 51 (Int32.toNatClampNeg ((((rf_i m 51 (Int32.toNatClampNeg ((m.1 50 0) * 3)) a1).1 50 0) * 3) + 1)) a2).1 50 0) * 3) + 2)) a3).1 50 0)) a4).1 50 0) + 1)))) (by decide +kernel) rfl (by exact ⟨(rf_in_of q0), (rf_in_of q1), (rf_in_of q2), (rf_in_of q3)⟩) ?_
  obtain rfl := Option.some.inj hg
  exact rf_iret C hE (by decide +kernel)
-- X7_missOf__31
abbrev j_X7_missOf__31 : rf_J := (7, yX7_missOf, cX7_missOf, 3, (some .int))
theorem mw_X7_missOf__31 : rf_mv j_X7_missOf__31 (rf_R 7) 2 := ⟨⟨rf_mem 63 (by decide +kernel), rf_mem 63 (by decide +kernel), rf_mem 1 (by decide +kernel), rf_mem 63 (by decide +kernel)⟩, by decide +kernel, by decide⟩
def g_X7_missOf__31 (w : rf_w) (m : rf_m) (a1 : Int32) : Option (Int32 × rf_m) := (if (m.1 50 0) ≤ a1 then rf_b (g_X7_roundMiss__31 w m (a1 - (m.1 50 0))) fun y0 m0 => some (y0, m0) else rf_b (g_X7_triangleMiss__31 w m a1) fun y1 m1 => some (y1, m1))
theorem c_X7_missOf__31 {w : rf_w} {m : rf_m} {a1 : Int32} {r : Int32 × rf_m} (hg : g_X7_missOf__31 w m a1 = some r) : rf_Con j_X7_missOf__31 3 (rf_sh w) [.ref 50, .int a1, .ref 31] (rf_MM w m) (some (.int r.1)) (rf_MM w r.2) := by
  refine rf_con j_X7_missOf__31 3 ⟨by decide +kernel, rfl, Nat.le_of_ble_eq_true rfl⟩ (fun K C hE => ?_)
  unfold g_X7_missOf__31 at hg
  show rf_V 3 (rf_sh w) K 0 0 0 ([(0, .ref 50), (1, .int a1), (2, .ref 31)], [], rf_MM w m)
  refine rf_seg C [(.iload 1, 1), (.aload 0, 1), (.invokeinterface 7 0, 3)] (pc' := 5) (S' := ([(0, .ref 50), (1, .int a1), (2, .ref 31)], [.int (m.1 50 0), .int a1], rf_MM w m)) (by decide +kernel) rfl trivial ?_
  refine rf_icmp_ge C 12 17 (by decide +kernel) (fun hc => ?_) (fun hc => ?_)
  · replace hg := (if_pos hc).symm.trans hg
    refine rf_seg C [(.aload 0, 1), (.iload 1, 1), (.aload 0, 1), (.invokeinterface 7 0, 3), (.isub, 1), (.aload 2, 1)] (pc' := 25) (S' := ([(0, .ref 50), (1, .int a1), (2, .ref 31)], [.ref 31, .int (a1 - (m.1 50 0)), .ref 50], rf_MM w m)) (by decide +kernel) rfl trivial ?_
    obtain ⟨y0, m0, hc0, hg⟩ := rf_b_some hg
    refine rf_callv C rf_fit0 j_X7_roundMiss__31 (ci := 7) (As := [.int (a1 - (m.1 50 0)), .ref 31]) (rest := []) mw_X7_roundMiss__31 (c_X7_roundMiss__31 hc0) (by decide) rfl (by decide) lk_7_78 rfl rfl (Nat.le_of_ble_eq_true rfl) (by decide +kernel) ?_
    show rf_V 3 (rf_sh w) K 0 0 28 ([(0, .ref 50), (1, .int a1), (2, .ref 31)], [.int y0], rf_MM w m0)
    obtain rfl := Option.some.inj hg
    exact rf_iret C hE (by decide +kernel)
  · replace hg := (if_neg hc).symm.trans hg
    refine rf_seg C [(.aload 0, 1), (.iload 1, 1), (.aload 2, 1)] (pc' := 11) (S' := ([(0, .ref 50), (1, .int a1), (2, .ref 31)], [.ref 31, .int a1, .ref 50], rf_MM w m)) (by decide +kernel) rfl trivial ?_
    obtain ⟨y1, m1, hc1, hg⟩ := rf_b_some hg
    refine rf_callv C rf_fit0 j_X7_triangleMiss__31 (ci := 7) (As := [.int a1, .ref 31]) (rest := []) mw_X7_triangleMiss__31 (c_X7_triangleMiss__31 hc1) (by decide) rfl (by decide) lk_7_74 rfl rfl (Nat.le_of_ble_eq_true rfl) (by decide +kernel) ?_
    show rf_V 3 (rf_sh w) K 0 0 14 ([(0, .ref 50), (1, .int a1), (2, .ref 31)], [.int y1], rf_MM w m1)
    refine rf_goto C 14 28 (by decide +kernel) ?_
    obtain rfl := Option.some.inj hg
    exact rf_iret C hE (by decide +kernel)
-- X7_wideOnes
abbrev j_X7_wideOnes : rf_J := (7, yX7_wideOnes, cX7_wideOnes, 4, (some .int))
theorem mw_X7_wideOnes : rf_mv j_X7_wideOnes (rf_R 7) 1 := ⟨⟨rf_mem 63 (by decide +kernel), rf_mem 63 (by decide +kernel), rf_mem 1 (by decide +kernel), rf_mem 63 (by decide +kernel)⟩, by decide +kernel, by decide⟩
def g_X7_wideOnes_39 (w : rf_w) (rec4 : Int32 → Int32 → Int32 → rf_m → Option (Int32 × rf_m)) (a1 : Int32) (a2 : Int32) (a3 : Int32) (m : rf_m) : Option (Int32 × rf_m) := rec4 a1 a2 (a3 + 1) m
def g_X7_wideOnes_4_b (w : rf_w) (rec4 : Int32 → Int32 → Int32 → rf_m → Option (Int32 × rf_m)) (a1 : Int32) (a2 : Int32) (a3 : Int32) (m : rf_m) : Option (Int32 × rf_m) := (if ((m.1 50 0) + (m.1 50 1)) ≤ a3 then some (a2, m) else rf_b (g_X7_missOf__31 w m a3) fun y0 m0 => rf_b (g_X7_isBeyond w m0 y0 a1) fun y1 m1 => (if y1 = 0 then g_X7_wideOnes_39 w rec4 a1 a2 a3 m1 else g_X7_wideOnes_39 w rec4 a1 (a2 + 1) a3 m1))
def g_X7_wideOnes_4 (w : rf_w) : Nat → Int32 → Int32 → Int32 → rf_m → Option (Int32 × rf_m)
  | 0, _, _, _, _ => none
  | n + 1, a1, a2, a3, m => g_X7_wideOnes_4_b w (g_X7_wideOnes_4 w n) a1 a2 a3 m
def g_X7_wideOnes (w : rf_w) (m : rf_m) (a1 : Int32) : Option (Int32 × rf_m) := g_X7_wideOnes_4 w rf_fuel a1 0 0 m
theorem s_X7_wideOnes_39 {w : rf_w} {K : rf_K} {r : Int32 × rf_m} (C : rf_Ctx 7 cX7_wideOnes 4 4 (rf_sh w) K) (hE : rf_End (some .int) K (rf_sh w) 0 0 (some (.int r.1)) (rf_MM w r.2)) {rec4 : Int32 → Int32 → Int32 → rf_m → Option (Int32 × rf_m)} (hr4 : ∀ (a1 : Int32) (a2 : Int32) (a3 : Int32) (m : rf_m), rec4 a1 a2 a3 m = some r → rf_V 4 (rf_sh w) K 0 0 4 ([(0, .ref 50), (1, .int a1), (2, .int a2), (3, .int a3)], [], rf_MM w m)) (a1 : Int32) (a2 : Int32) (a3 : Int32) (m : rf_m) (hg : g_X7_wideOnes_39 w rec4 a1 a2 a3 m = some r) : rf_V 4 (rf_sh w) K 0 0 39 ([(0, .ref 50), (1, .int a1), (2, .int a2), (3, .int a3)], [], rf_MM w m) := by
  unfold g_X7_wideOnes_39 at hg
  refine rf_seg C [(.iinc 3 1, 3)] (pc' := 42) (S' := ([(3, .int (a3 + 1)), (0, .ref 50), (1, .int a1), (2, .int a2)], [], rf_MM w m)) (by decide +kernel) rfl trivial ?_
  refine rf_goto C (-38) 4 (by decide +kernel) ?_
  refine rf_few [1, 2, 3, 0] rfl ?_
  exact hr4 a1 a2 (a3 + 1) m hg
theorem s_X7_wideOnes_4_b {w : rf_w} {K : rf_K} {r : Int32 × rf_m} (C : rf_Ctx 7 cX7_wideOnes 4 4 (rf_sh w) K) (hE : rf_End (some .int) K (rf_sh w) 0 0 (some (.int r.1)) (rf_MM w r.2)) {rec4 : Int32 → Int32 → Int32 → rf_m → Option (Int32 × rf_m)} (hr4 : ∀ (a1 : Int32) (a2 : Int32) (a3 : Int32) (m : rf_m), rec4 a1 a2 a3 m = some r → rf_V 4 (rf_sh w) K 0 0 4 ([(0, .ref 50), (1, .int a1), (2, .int a2), (3, .int a3)], [], rf_MM w m)) (a1 : Int32) (a2 : Int32) (a3 : Int32) (m : rf_m) (hg : g_X7_wideOnes_4_b w rec4 a1 a2 a3 m = some r) : rf_V 4 (rf_sh w) K 0 0 4 ([(0, .ref 50), (1, .int a1), (2, .int a2), (3, .int a3)], [], rf_MM w m) := by
  unfold g_X7_wideOnes_4_b at hg
  refine rf_seg C [(.iload 3, 1), (.aload 0, 1), (.invokeinterface 7 0, 3), (.aload 0, 1), (.invokeinterface 7 1, 3), (.iadd, 1)] (pc' := 14) (S' := ([(0, .ref 50), (1, .int a1), (2, .int a2), (3, .int a3)], [.int ((m.1 50 0) + (m.1 50 1)), .int a3], rf_MM w m)) (by decide +kernel) rfl trivial ?_
  refine rf_icmp_ge C 31 45 (by decide +kernel) (fun hc => ?_) (fun hc => ?_)
  · replace hg := (if_pos hc).symm.trans hg
    refine rf_seg C [(.iload 2, 1)] (pc' := 46) (S' := ([(0, .ref 50), (1, .int a1), (2, .int a2), (3, .int a3)], [.int a2], rf_MM w m)) (by decide +kernel) rfl trivial ?_
    obtain rfl := Option.some.inj hg
    exact rf_iret C hE (by decide +kernel)
  · replace hg := (if_neg hc).symm.trans hg
    refine rf_seg C [(.aload 0, 1), (.iload 3, 1), (.aload 0, 1), (.invokeinterface 7 2, 3), (.invokeinterface 3 4, 3)] (pc' := 26) (S' := ([(0, .ref 50), (1, .int a1), (2, .int a2), (3, .int a3)], [.ref 31, .int a3, .ref 50], rf_MM w m)) (by decide +kernel) rfl trivial ?_
    obtain ⟨y0, m0, hc0, hg⟩ := rf_b_some hg
    refine rf_callv C rf_fit0 j_X7_missOf__31 (ci := 7) (As := [.int a3, .ref 31]) (rest := []) mw_X7_missOf__31 (c_X7_missOf__31 hc0) (by decide) rfl (by decide) lk_7_90 rfl rfl (Nat.le_of_ble_eq_true rfl) (by decide +kernel) ?_
    show rf_V 4 (rf_sh w) K 0 0 29 ([(0, .ref 50), (1, .int a1), (2, .int a2), (3, .int a3)], [.int y0], rf_MM w m0)
    refine rf_seg C [(.iload 1, 1)] (pc' := 30) (S' := ([(0, .ref 50), (1, .int a1), (2, .int a2), (3, .int a3)], [.int a1, .int y0], rf_MM w m0)) (by decide +kernel) rfl trivial ?_
    obtain ⟨y1, m1, hc1, hg⟩ := rf_b_some hg
    refine rf_calls C rf_fit0 j_X7_isBeyond (As := [.int y0, .int a1]) (rest := []) mw_X7_isBeyond (c_X7_isBeyond hc1) (by decide) lk_7_93 rfl rfl (Nat.le_of_ble_eq_true rfl) (by decide +kernel) ?_
    show rf_V 4 (rf_sh w) K 0 0 33 ([(0, .ref 50), (1, .int a1), (2, .int a2), (3, .int a3)], [.int y1], rf_MM w m1)
    refine rf_if_eq C 6 39 (by decide +kernel) (fun hc => ?_) (fun hc => ?_)
    · replace hg := (if_pos hc).symm.trans hg
      refine rf_few [0, 1, 2, 3] rfl ?_
      exact s_X7_wideOnes_39 C hE hr4 a1 a2 a3 m1 hg
    · replace hg := (if_neg hc).symm.trans hg
      refine rf_seg C [(.iinc 2 1, 3)] (pc' := 39) (S' := ([(2, .int (a2 + 1)), (0, .ref 50), (1, .int a1), (3, .int a3)], [], rf_MM w m1)) (by decide +kernel) rfl trivial ?_
      refine rf_few [1, 2, 0, 3] rfl ?_
      exact s_X7_wideOnes_39 C hE hr4 a1 (a2 + 1) a3 m1 hg
theorem s_X7_wideOnes_4 {w : rf_w} {K : rf_K} {r : Int32 × rf_m} (C : rf_Ctx 7 cX7_wideOnes 4 4 (rf_sh w) K) (hE : rf_End (some .int) K (rf_sh w) 0 0 (some (.int r.1)) (rf_MM w r.2)) (n : Nat) : ∀ (a1 : Int32) (a2 : Int32) (a3 : Int32) (m : rf_m), g_X7_wideOnes_4 w n a1 a2 a3 m = some r → rf_V 4 (rf_sh w) K 0 0 4 ([(0, .ref 50), (1, .int a1), (2, .int a2), (3, .int a3)], [], rf_MM w m) := by
  induction n with
  | zero => intro a1 a2 a3 m hg; cases hg
  | succ n ih => intro a1 a2 a3 m hg; exact s_X7_wideOnes_4_b C hE ih a1 a2 a3 m hg
theorem c_X7_wideOnes {w : rf_w} {m : rf_m} {a1 : Int32} {r : Int32 × rf_m} (hg : g_X7_wideOnes w m a1 = some r) : rf_Con j_X7_wideOnes 4 (rf_sh w) [.ref 50, .int a1] (rf_MM w m) (some (.int r.1)) (rf_MM w r.2) := by
  refine rf_con j_X7_wideOnes 4 ⟨by decide +kernel, rfl, Nat.le_of_ble_eq_true rfl⟩ (fun K C hE => ?_)
  unfold g_X7_wideOnes at hg
  show rf_V 4 (rf_sh w) K 0 0 0 ([(0, .ref 50), (1, .int a1)], [], rf_MM w m)
  refine rf_seg C [(.iconst 0, 1), (.istore 2, 1), (.iconst 0, 1), (.istore 3, 1)] (pc' := 4) (S' := ([(3, .int 0), (2, .int 0), (0, .ref 50), (1, .int a1)], [], rf_MM w m)) (by decide +kernel) rfl trivial ?_
  refine rf_few [2, 3, 1, 0] rfl ?_
  exact s_X7_wideOnes_4 C hE rf_fuel a1 0 0 m hg
-- X8_hold
abbrev j_X8_hold : rf_J := (8, yX8_hold, cX8_hold, 2, none)
theorem mw_X8_hold : rf_mv j_X8_hold (rf_R 8) 1 := ⟨⟨rf_mem 44 (by decide +kernel), rf_mem 44 (by decide +kernel), rf_mem 2 (by decide +kernel), rf_mem 44 (by decide +kernel)⟩, by decide +kernel, by decide⟩
def g_X8_hold (w : rf_w) (m : rf_m) (a1 : Int32) : Option (rf_m) := (if 160 ≤ (m.1 14 18) then some m else rf_g (rf_in (m.1 14 18) 160) (some (rf_i (rf_i m 17 (Int32.toNatClampNeg (m.1 14 18)) a1) 14 18 (((rf_i m 17 (Int32.toNatClampNeg (m.1 14 18)) a1).1 14 18) + 1))))
theorem c_X8_hold {w : rf_w} {m : rf_m} {a1 : Int32} {r : rf_m} (hg : g_X8_hold w m a1 = some r) : rf_Con j_X8_hold 1 (rf_sh w) [.ref 14, .int a1] (rf_MM w m) none (rf_MM w r) := by
  refine rf_con j_X8_hold 1 ⟨by decide +kernel, rfl, Nat.le_of_ble_eq_true rfl⟩ (fun K C hE => ?_)
  unfold g_X8_hold at hg
  show rf_V 2 (rf_sh w) K 0 0 0 ([(0, .ref 14), (1, .int a1)], [], rf_MM w m)
  refine rf_seg C [(.aload 0, 1), (.invokeinterface 8 18, 3), (.iconst 160, 3)] (pc' := 7) (S' := ([(0, .ref 14), (1, .int a1)], [.int 160, .int (m.1 14 18)], rf_MM w m)) (by decide +kernel) rfl trivial ?_
  refine rf_icmp_ge C 23 30 (by decide +kernel) (fun hc => ?_) (fun hc => ?_)
  · replace hg := (if_pos hc).symm.trans hg
    obtain rfl := Option.some.inj hg
    exact rf_vret C hE (by decide +kernel)
  · replace hg := (if_neg hc).symm.trans hg
    obtain ⟨q0, hg⟩ := rf_g_some hg
    refine rf_seg C [(.aload 0, 1), (.invokeinterface 8 17, 3), (.aload 0, 1), (.invokeinterface 8 18, 3), (.iload 1, 1), (.iastore, 1), (.aload 0, 1), (.dup, 1), (.invokeinterface 8 18, 3), (.iconst 1, 1), (.iadd, 1), (.multianewarray 8 18, 3)] (pc' := 30) (S' := ([(0, .ref 14), (1, .int a1)], [], rf_MM w (rf_i (rf_i m 17 (Int32.toNatClampNeg (m.1 14 18)) a1) 14 18 (((rf_i m 17 (Int32.toNatClampNeg (m.1 14 18)) a1).1 14 18) + 1)))) (by decide +kernel) rfl (rf_in_of q0) ?_
    obtain rfl := Option.some.inj hg
    exact rf_vret C hE (by decide +kernel)
-- X8_fail
abbrev j_X8_fail : rf_J := (8, yX8_fail, cX8_fail, 2, none)
theorem mw_X8_fail : rf_mv j_X8_fail (rf_R 8) 1 := ⟨⟨rf_mem 43 (by decide +kernel), rf_mem 43 (by decide +kernel), rf_mem 2 (by decide +kernel), rf_mem 43 (by decide +kernel)⟩, by decide +kernel, by decide⟩
def g_X8_fail (w : rf_w) (m : rf_m) (a1 : Int32) : Option (rf_m) := some (rf_i (rf_i m 14 5 a1) 14 6 ((rf_i m 14 5 a1).1 14 8))
theorem c_X8_fail {w : rf_w} {m : rf_m} {a1 : Int32} {r : rf_m} (hg : g_X8_fail w m a1 = some r) : rf_Con j_X8_fail 1 (rf_sh w) [.ref 14, .int a1] (rf_MM w m) none (rf_MM w r) := by
  refine rf_con j_X8_fail 1 ⟨by decide +kernel, rfl, Nat.le_of_ble_eq_true rfl⟩ (fun K C hE => ?_)
  unfold g_X8_fail at hg
  show rf_V 2 (rf_sh w) K 0 0 0 ([(0, .ref 14), (1, .int a1)], [], rf_MM w m)
  refine rf_seg C [(.aload 0, 1), (.iload 1, 1), (.multianewarray 8 5, 3), (.aload 0, 1), (.aload 0, 1), (.invokeinterface 8 8, 3), (.multianewarray 8 6, 3)] (pc' := 13) (S' := ([(0, .ref 14), (1, .int a1)], [], rf_MM w (rf_i (rf_i m 14 5 a1) 14 6 ((rf_i m 14 5 a1).1 14 8)))) (by decide +kernel) rfl trivial ?_
  obtain rfl := Option.some.inj hg
  exact rf_vret C hE (by decide +kernel)
-- X8_takeNot
abbrev j_X8_takeNot : rf_J := (8, yX8_takeNot, cX8_takeNot, 1, none)
theorem mw_X8_takeNot : rf_mv j_X8_takeNot (rf_R 8) 0 := ⟨⟨rf_mem 43 (by decide +kernel), rf_mem 43 (by decide +kernel), rf_mem 2 (by decide +kernel), rf_mem 43 (by decide +kernel)⟩, by decide +kernel, by decide⟩
def g_X8_takeNot (w : rf_w) (m : rf_m) : Option (rf_m) := (if ((rf_i m 14 15 ((m.1 14 15) + 1)).1 14 15) ≤ 8 then (if ((rf_i m 14 15 ((m.1 14 15) + 1)).1 14 18) ≤ 0 then rf_bv (g_X8_hold w (rf_i m 14 15 ((m.1 14 15) + 1)) ((-17))) fun m0 => some m0 else rf_g (rf_in (((rf_i m 14 15 ((m.1 14 15) + 1)).1 14 18) - 1) 160) ((if ((rf_i m 14 15 ((m.1 14 15) + 1)).1 17 (Int32.toNatClampNeg (((rf_i m 14 15 ((m.1 14 15) + 1)).1 14 18) - 1))) = ((-17)) then some (rf_i (rf_i m 14 15 ((m.1 14 15) + 1)) 14 18 (((rf_i m 14 15 ((m.1 14 15) + 1)).1 14 18) - 1)) else rf_bv (g_X8_hold w (rf_i m 14 15 ((m.1 14 15) + 1)) ((-17))) fun m2 => some m2))) else rf_bv (g_X8_fail w (rf_i m 14 15 ((m.1 14 15) + 1)) 3) fun m3 => some m3)
theorem c_X8_takeNot {w : rf_w} {m : rf_m} {r : rf_m} (hg : g_X8_takeNot w m = some r) : rf_Con j_X8_takeNot 2 (rf_sh w) [.ref 14] (rf_MM w m) none (rf_MM w r) := by
  refine rf_con j_X8_takeNot 2 ⟨by decide +kernel, rfl, Nat.le_of_ble_eq_true rfl⟩ (fun K C hE => ?_)
  unfold g_X8_takeNot at hg
  show rf_V 1 (rf_sh w) K 0 0 0 ([(0, .ref 14)], [], rf_MM w m)
  refine rf_seg C [(.aload 0, 1), (.dup, 1), (.invokeinterface 8 15, 3), (.iconst 1, 1), (.iadd, 1), (.multianewarray 8 15, 3), (.aload 0, 1), (.invokeinterface 8 15, 3), (.iconst 8, 2)] (pc' := 16) (S' := ([(0, .ref 14)], [.int 8, .int ((rf_i m 14 15 ((m.1 14 15) + 1)).1 14 15)], rf_MM w (rf_i m 14 15 ((m.1 14 15) + 1)))) (by decide +kernel) rfl trivial ?_
  refine rf_icmp_le C 11 27 (by decide +kernel) (fun hc => ?_) (fun hc => ?_)
  · replace hg := (if_pos hc).symm.trans hg
    refine rf_seg C [(.aload 0, 1), (.invokeinterface 8 18, 3)] (pc' := 31) (S' := ([(0, .ref 14)], [.int ((rf_i m 14 15 ((m.1 14 15) + 1)).1 14 18)], rf_MM w (rf_i m 14 15 ((m.1 14 15) + 1)))) (by decide +kernel) rfl trivial ?_
    refine rf_if_le C 32 63 (by decide +kernel) (fun hc => ?_) (fun hc => ?_)
    · replace hg := (if_pos hc).symm.trans hg
      refine rf_seg C [(.aload 0, 1), (.iconst (-17), 2)] (pc' := 66) (S' := ([(0, .ref 14)], [.int ((-17)), .ref 14], rf_MM w (rf_i m 14 15 ((m.1 14 15) + 1)))) (by decide +kernel) rfl trivial ?_
      obtain ⟨m0, hc0, hg⟩ := rf_bv_some hg
      refine rf_callv C rf_fit0 j_X8_hold (ci := 8) (As := [.int ((-17))]) (rest := []) mw_X8_hold (c_X8_hold hc0) (by decide) rfl (by decide) lk_8_114 rfl rfl (Nat.le_of_ble_eq_true rfl) (by decide +kernel) ?_
      show rf_V 1 (rf_sh w) K 0 0 69 ([(0, .ref 14)], [], rf_MM w m0)
      obtain rfl := Option.some.inj hg
      exact rf_vret C hE (by decide +kernel)
    · replace hg := (if_neg hc).symm.trans hg
      obtain ⟨q1, hg⟩ := rf_g_some hg
      refine rf_seg C [(.aload 0, 1), (.invokeinterface 8 17, 3), (.aload 0, 1), (.invokeinterface 8 18, 3), (.iconst 1, 1), (.isub, 1), (.iaload, 1), (.iconst (-17), 2)] (pc' := 47) (S' := ([(0, .ref 14)], [.int ((-17)), .int ((rf_i m 14 15 ((m.1 14 15) + 1)).1 17 (Int32.toNatClampNeg (((rf_i m 14 15 ((m.1 14 15) + 1)).1 14 18) - 1)))], rf_MM w (rf_i m 14 15 ((m.1 14 15) + 1)))) (by decide +kernel) rfl (rf_in_of q1) ?_
      refine rf_icmp_ne C 16 63 (by decide +kernel) (fun hc => ?_) (fun hc => ?_)
      · replace hg := (if_neg hc).symm.trans hg
        refine rf_seg C [(.aload 0, 1), (.iconst (-17), 2)] (pc' := 66) (S' := ([(0, .ref 14)], [.int ((-17)), .ref 14], rf_MM w (rf_i m 14 15 ((m.1 14 15) + 1)))) (by decide +kernel) rfl trivial ?_
        obtain ⟨m2, hc2, hg⟩ := rf_bv_some hg
        refine rf_callv C rf_fit0 j_X8_hold (ci := 8) (As := [.int ((-17))]) (rest := []) mw_X8_hold (c_X8_hold hc2) (by decide) rfl (by decide) lk_8_114 rfl rfl (Nat.le_of_ble_eq_true rfl) (by decide +kernel) ?_
        show rf_V 1 (rf_sh w) K 0 0 69 ([(0, .ref 14)], [], rf_MM w m2)
        obtain rfl := Option.some.inj hg
        exact rf_vret C hE (by decide +kernel)
      · replace hg := (if_pos hc).symm.trans hg
        refine rf_seg C [(.aload 0, 1), (.dup, 1), (.invokeinterface 8 18, 3), (.iconst 1, 1), (.isub, 1), (.multianewarray 8 18, 3)] (pc' := 60) (S' := ([(0, .ref 14)], [], rf_MM w (rf_i (rf_i m 14 15 ((m.1 14 15) + 1)) 14 18 (((rf_i m 14 15 ((m.1 14 15) + 1)).1 14 18) - 1)))) (by decide +kernel) rfl trivial ?_
        refine rf_goto C 9 69 (by decide +kernel) ?_
        obtain rfl := Option.some.inj hg
        exact rf_vret C hE (by decide +kernel)
  · replace hg := (if_neg hc).symm.trans hg
    refine rf_seg C [(.aload 0, 1), (.iconst 3, 1)] (pc' := 21) (S' := ([(0, .ref 14)], [.int 3, .ref 14], rf_MM w (rf_i m 14 15 ((m.1 14 15) + 1)))) (by decide +kernel) rfl trivial ?_
    obtain ⟨m3, hc3, hg⟩ := rf_bv_some hg
    refine rf_callv C rf_fit0 j_X8_fail (ci := 8) (As := [.int 3]) (rest := []) mw_X8_fail (c_X8_fail hc3) (by decide) rfl (by decide) lk_8_96 rfl rfl (Nat.le_of_ble_eq_true rfl) (by decide +kernel) ?_
    show rf_V 1 (rf_sh w) K 0 0 24 ([(0, .ref 14)], [], rf_MM w m3)
    refine rf_goto C 45 69 (by decide +kernel) ?_
    obtain rfl := Option.some.inj hg
    exact rf_vret C hE (by decide +kernel)
-- X8_takeBracket
abbrev j_X8_takeBracket : rf_J := (8, yX8_takeBracket, cX8_takeBracket, 1, none)
theorem mw_X8_takeBracket : rf_mv j_X8_takeBracket (rf_R 8) 0 := ⟨⟨rf_mem 44 (by decide +kernel), rf_mem 44 (by decide +kernel), rf_mem 2 (by decide +kernel), rf_mem 44 (by decide +kernel)⟩, by decide +kernel, by decide⟩
def g_X8_takeBracket (w : rf_w) (m : rf_m) : Option (rf_m) := (if ((rf_i m 14 16 ((m.1 14 16) + 1)).1 14 16) ≤ 8 then rf_bv (g_X8_hold w (rf_i (rf_i m 14 16 ((m.1 14 16) + 1)) 14 15 0) ((-20))) fun m0 => some m0 else rf_bv (g_X8_fail w (rf_i m 14 16 ((m.1 14 16) + 1)) 3) fun m1 => some m1)
theorem c_X8_takeBracket {w : rf_w} {m : rf_m} {r : rf_m} (hg : g_X8_takeBracket w m = some r) : rf_Con j_X8_takeBracket 2 (rf_sh w) [.ref 14] (rf_MM w m) none (rf_MM w r) := by
  refine rf_con j_X8_takeBracket 2 ⟨by decide +kernel, rfl, Nat.le_of_ble_eq_true rfl⟩ (fun K C hE => ?_)
  unfold g_X8_takeBracket at hg
  show rf_V 1 (rf_sh w) K 0 0 0 ([(0, .ref 14)], [], rf_MM w m)
  refine rf_seg C [(.aload 0, 1), (.dup, 1), (.invokeinterface 8 16, 3), (.iconst 1, 1), (.iadd, 1), (.multianewarray 8 16, 3), (.aload 0, 1), (.invokeinterface 8 16, 3), (.iconst 8, 2)] (pc' := 16) (S' := ([(0, .ref 14)], [.int 8, .int ((rf_i m 14 16 ((m.1 14 16) + 1)).1 14 16)], rf_MM w (rf_i m 14 16 ((m.1 14 16) + 1)))) (by decide +kernel) rfl trivial ?_
  refine rf_icmp_le C 11 27 (by decide +kernel) (fun hc => ?_) (fun hc => ?_)
  · replace hg := (if_pos hc).symm.trans hg
    refine rf_seg C [(.aload 0, 1), (.iconst 0, 1), (.multianewarray 8 15, 3), (.aload 0, 1), (.iconst (-20), 2)] (pc' := 35) (S' := ([(0, .ref 14)], [.int ((-20)), .ref 14], rf_MM w (rf_i (rf_i m 14 16 ((m.1 14 16) + 1)) 14 15 0))) (by decide +kernel) rfl trivial ?_
    obtain ⟨m0, hc0, hg⟩ := rf_bv_some hg
    refine rf_callv C rf_fit0 j_X8_hold (ci := 8) (As := [.int ((-20))]) (rest := []) mw_X8_hold (c_X8_hold hc0) (by decide) rfl (by decide) lk_8_114 rfl rfl (Nat.le_of_ble_eq_true rfl) (by decide +kernel) ?_
    show rf_V 1 (rf_sh w) K 0 0 38 ([(0, .ref 14)], [], rf_MM w m0)
    obtain rfl := Option.some.inj hg
    exact rf_vret C hE (by decide +kernel)
  · replace hg := (if_neg hc).symm.trans hg
    refine rf_seg C [(.aload 0, 1), (.iconst 3, 1)] (pc' := 21) (S' := ([(0, .ref 14)], [.int 3, .ref 14], rf_MM w (rf_i m 14 16 ((m.1 14 16) + 1)))) (by decide +kernel) rfl trivial ?_
    obtain ⟨m1, hc1, hg⟩ := rf_bv_some hg
    refine rf_callv C rf_fit0 j_X8_fail (ci := 8) (As := [.int 3]) (rest := []) mw_X8_fail (c_X8_fail hc1) (by decide) rfl (by decide) lk_8_96 rfl rfl (Nat.le_of_ble_eq_true rfl) (by decide +kernel) ?_
    show rf_V 1 (rf_sh w) K 0 0 24 ([(0, .ref 14)], [], rf_MM w m1)
    refine rf_goto C 14 38 (by decide +kernel) ?_
    obtain rfl := Option.some.inj hg
    exact rf_vret C hE (by decide +kernel)
-- X8_write
abbrev j_X8_write : rf_J := (8, yX8_write, cX8_write, 2, none)
theorem mw_X8_write : rf_mv j_X8_write (rf_R 8) 1 := ⟨⟨rf_mem 44 (by decide +kernel), rf_mem 44 (by decide +kernel), rf_mem 2 (by decide +kernel), rf_mem 44 (by decide +kernel)⟩, by decide +kernel, by decide⟩
def g_X8_write (w : rf_w) (m : rf_m) (a1 : Int32) : Option (rf_m) := (if 160 ≤ (m.1 14 2) then some m else rf_g (rf_in (m.1 14 2) 160) (some (rf_i (rf_i m 16 (Int32.toNatClampNeg (m.1 14 2)) a1) 14 2 (((rf_i m 16 (Int32.toNatClampNeg (m.1 14 2)) a1).1 14 2) + 1))))
theorem c_X8_write {w : rf_w} {m : rf_m} {a1 : Int32} {r : rf_m} (hg : g_X8_write w m a1 = some r) : rf_Con j_X8_write 1 (rf_sh w) [.ref 14, .int a1] (rf_MM w m) none (rf_MM w r) := by
  refine rf_con j_X8_write 1 ⟨by decide +kernel, rfl, Nat.le_of_ble_eq_true rfl⟩ (fun K C hE => ?_)
  unfold g_X8_write at hg
  show rf_V 2 (rf_sh w) K 0 0 0 ([(0, .ref 14), (1, .int a1)], [], rf_MM w m)
  refine rf_seg C [(.aload 0, 1), (.invokeinterface 8 2, 3), (.iconst 160, 3)] (pc' := 7) (S' := ([(0, .ref 14), (1, .int a1)], [.int 160, .int (m.1 14 2)], rf_MM w m)) (by decide +kernel) rfl trivial ?_
  refine rf_icmp_ge C 23 30 (by decide +kernel) (fun hc => ?_) (fun hc => ?_)
  · replace hg := (if_pos hc).symm.trans hg
    obtain rfl := Option.some.inj hg
    exact rf_vret C hE (by decide +kernel)
  · replace hg := (if_neg hc).symm.trans hg
    obtain ⟨q0, hg⟩ := rf_g_some hg
    refine rf_seg C [(.aload 0, 1), (.invokeinterface 8 1, 3), (.aload 0, 1), (.invokeinterface 8 2, 3), (.iload 1, 1), (.iastore, 1), (.aload 0, 1), (.dup, 1), (.invokeinterface 8 2, 3), (.iconst 1, 1), (.iadd, 1), (.multianewarray 8 2, 3)] (pc' := 30) (S' := ([(0, .ref 14), (1, .int a1)], [], rf_MM w (rf_i (rf_i m 16 (Int32.toNatClampNeg (m.1 14 2)) a1) 14 2 (((rf_i m 16 (Int32.toNatClampNeg (m.1 14 2)) a1).1 14 2) + 1)))) (by decide +kernel) rfl (rf_in_of q0) ?_
    obtain rfl := Option.some.inj hg
    exact rf_vret C hE (by decide +kernel)
-- X8_signHere
abbrev j_X8_signHere : rf_J := (8, yX8_signHere, cX8_signHere, 1, (some .int))
theorem mw_X8_signHere : rf_mv j_X8_signHere (rf_R 8) 0 := ⟨⟨rf_mem 45 (by decide +kernel), rf_mem 45 (by decide +kernel), rf_mem 2 (by decide +kernel), rf_mem 45 (by decide +kernel)⟩, by decide +kernel, by decide⟩
def g_X8_signHere (w : rf_w) (m : rf_m) : Option (Int32 × rf_m) := (if (m.1 14 10) = 42 then some ((-11), m) else if (m.1 14 10) = 43 then some ((-12), m) else if (m.1 14 10) = 45 then some ((-13), m) else if (m.1 14 10) = 60 then some ((-14), m) else if (m.1 14 10) = 61 then some ((-16), m) else if (m.1 14 10) = 62 then some ((-15), m) else some ((-1), m))
theorem c_X8_signHere {w : rf_w} {m : rf_m} {r : Int32 × rf_m} (hg : g_X8_signHere w m = some r) : rf_Con j_X8_signHere 1 (rf_sh w) [.ref 14] (rf_MM w m) (some (.int r.1)) (rf_MM w r.2) := by
  refine rf_con j_X8_signHere 1 ⟨by decide +kernel, rfl, Nat.le_of_ble_eq_true rfl⟩ (fun K C hE => ?_)
  unfold g_X8_signHere at hg
  show rf_V 1 (rf_sh w) K 0 0 0 ([(0, .ref 14)], [], rf_MM w m)
  refine rf_seg C [(.aload 0, 1), (.invokeinterface 8 10, 3)] (pc' := 4) (S' := ([(0, .ref 14)], [.int (m.1 14 10)], rf_MM w m)) (by decide +kernel) rfl trivial ?_
  by_cases ht42 : (m.1 14 10) = 42
  · replace hg := (if_pos ht42).symm.trans hg
    refine rf_lukc C ht42 64 (by decide +kernel) ?_
    refine rf_seg C [(.iconst (-11), 2)] (pc' := 66) (S' := ([(0, .ref 14)], [.int ((-11))], rf_MM w m)) (by decide +kernel) rfl trivial ?_
    obtain rfl := Option.some.inj hg
    exact rf_iret C hE (by decide +kernel)
  · replace hg := (if_neg ht42).symm.trans hg
    by_cases ht43 : (m.1 14 10) = 43
    · replace hg := (if_pos ht43).symm.trans hg
      refine rf_lukc C ht43 67 (by decide +kernel) ?_
      refine rf_seg C [(.iconst (-12), 2)] (pc' := 69) (S' := ([(0, .ref 14)], [.int ((-12))], rf_MM w m)) (by decide +kernel) rfl trivial ?_
      obtain rfl := Option.some.inj hg
      exact rf_iret C hE (by decide +kernel)
    · replace hg := (if_neg ht43).symm.trans hg
      by_cases ht45 : (m.1 14 10) = 45
      · replace hg := (if_pos ht45).symm.trans hg
        refine rf_lukc C ht45 70 (by decide +kernel) ?_
        refine rf_seg C [(.iconst (-13), 2)] (pc' := 72) (S' := ([(0, .ref 14)], [.int ((-13))], rf_MM w m)) (by decide +kernel) rfl trivial ?_
        obtain rfl := Option.some.inj hg
        exact rf_iret C hE (by decide +kernel)
      · replace hg := (if_neg ht45).symm.trans hg
        by_cases ht60 : (m.1 14 10) = 60
        · replace hg := (if_pos ht60).symm.trans hg
          refine rf_lukc C ht60 73 (by decide +kernel) ?_
          refine rf_seg C [(.iconst (-14), 2)] (pc' := 75) (S' := ([(0, .ref 14)], [.int ((-14))], rf_MM w m)) (by decide +kernel) rfl trivial ?_
          obtain rfl := Option.some.inj hg
          exact rf_iret C hE (by decide +kernel)
        · replace hg := (if_neg ht60).symm.trans hg
          by_cases ht61 : (m.1 14 10) = 61
          · replace hg := (if_pos ht61).symm.trans hg
            refine rf_lukc C ht61 79 (by decide +kernel) ?_
            refine rf_seg C [(.iconst (-16), 2)] (pc' := 81) (S' := ([(0, .ref 14)], [.int ((-16))], rf_MM w m)) (by decide +kernel) rfl trivial ?_
            obtain rfl := Option.some.inj hg
            exact rf_iret C hE (by decide +kernel)
          · replace hg := (if_neg ht61).symm.trans hg
            by_cases ht62 : (m.1 14 10) = 62
            · replace hg := (if_pos ht62).symm.trans hg
              refine rf_lukc C ht62 76 (by decide +kernel) ?_
              refine rf_seg C [(.iconst (-15), 2)] (pc' := 78) (S' := ([(0, .ref 14)], [.int ((-15))], rf_MM w m)) (by decide +kernel) rfl trivial ?_
              obtain rfl := Option.some.inj hg
              exact rf_iret C hE (by decide +kernel)
            · replace hg := (if_neg ht62).symm.trans hg
              refine rf_lukd C [42, 43, 45, 60, 61, 62] 82 (by decide +kernel) (by intro z hz; have t0 : ((m.1 14 10)).toInt ≠ 42 := rf_ti ht42; have t1 : ((m.1 14 10)).toInt ≠ 43 := rf_ti ht43; have t2 : ((m.1 14 10)).toInt ≠ 45 := rf_ti ht45; have t3 : ((m.1 14 10)).toInt ≠ 60 := rf_ti ht60; have t4 : ((m.1 14 10)).toInt ≠ 61 := rf_ti ht61; have t5 : ((m.1 14 10)).toInt ≠ 62 := rf_ti ht62; simp only [List.mem_cons, List.not_mem_nil, or_false] at hz; omega) ?_
              refine rf_seg C [(.iconst (-1), 1)] (pc' := 83) (S' := ([(0, .ref 14)], [.int ((-1))], rf_MM w m)) (by decide +kernel) rfl trivial ?_
              obtain rfl := Option.some.inj hg
              exact rf_iret C hE (by decide +kernel)
-- X8_looseness
abbrev j_X8_looseness : rf_J := (8, yX8_looseness, cX8_looseness, 1, (some .int))
theorem mw_X8_looseness : rf_ms j_X8_looseness 1 := ⟨⟨rf_mem 45 (by decide +kernel), rf_mem 2 (by decide +kernel), rf_mem 45 (by decide +kernel)⟩, by decide +kernel, by decide⟩
def g_X8_looseness (w : rf_w) (m : rf_m) (a0 : Int32) : Option (Int32 × rf_m) := (if a0 = (-18) then some (5, m) else if a0 = (-17) then some (4, m) else if a0 = (-16) then some (3, m) else if a0 = (-15) then some (3, m) else if a0 = (-14) then some (3, m) else if a0 = (-13) then some (2, m) else if a0 = (-12) then some (2, m) else if a0 = (-11) then some (1, m) else some (6, m))
theorem c_X8_looseness {w : rf_w} {m : rf_m} {a0 : Int32} {r : Int32 × rf_m} (hg : g_X8_looseness w m a0 = some r) : rf_Con j_X8_looseness 1 (rf_sh w) [.int a0] (rf_MM w m) (some (.int r.1)) (rf_MM w r.2) := by
  refine rf_con j_X8_looseness 1 ⟨by decide +kernel, rfl, Nat.le_of_ble_eq_true rfl⟩ (fun K C hE => ?_)
  unfold g_X8_looseness at hg
  show rf_V 1 (rf_sh w) K 0 0 0 ([(0, .int a0)], [], rf_MM w m)
  refine rf_seg C [(.iload 0, 1)] (pc' := 1) (S' := ([(0, .int a0)], [.int a0], rf_MM w m)) (by decide +kernel) rfl trivial ?_
  by_cases htm18 : a0 = (-18)
  · replace hg := (if_pos htm18).symm.trans hg
    refine rf_tabc C htm18 56 (by decide +kernel) ?_
    refine rf_seg C [(.iconst 5, 1)] (pc' := 57) (S' := ([(0, .int a0)], [.int 5], rf_MM w m)) (by decide +kernel) rfl trivial ?_
    obtain rfl := Option.some.inj hg
    exact rf_iret C hE (by decide +kernel)
  · replace hg := (if_neg htm18).symm.trans hg
    by_cases htm17 : a0 = (-17)
    · replace hg := (if_pos htm17).symm.trans hg
      refine rf_tabc C htm17 54 (by decide +kernel) ?_
      refine rf_seg C [(.iconst 4, 1)] (pc' := 55) (S' := ([(0, .int a0)], [.int 4], rf_MM w m)) (by decide +kernel) rfl trivial ?_
      obtain rfl := Option.some.inj hg
      exact rf_iret C hE (by decide +kernel)
    · replace hg := (if_neg htm17).symm.trans hg
      by_cases htm16 : a0 = (-16)
      · replace hg := (if_pos htm16).symm.trans hg
        refine rf_tabc C htm16 52 (by decide +kernel) ?_
        refine rf_seg C [(.iconst 3, 1)] (pc' := 53) (S' := ([(0, .int a0)], [.int 3], rf_MM w m)) (by decide +kernel) rfl trivial ?_
        obtain rfl := Option.some.inj hg
        exact rf_iret C hE (by decide +kernel)
      · replace hg := (if_neg htm16).symm.trans hg
        by_cases htm15 : a0 = (-15)
        · replace hg := (if_pos htm15).symm.trans hg
          refine rf_tabc C htm15 52 (by decide +kernel) ?_
          refine rf_seg C [(.iconst 3, 1)] (pc' := 53) (S' := ([(0, .int a0)], [.int 3], rf_MM w m)) (by decide +kernel) rfl trivial ?_
          obtain rfl := Option.some.inj hg
          exact rf_iret C hE (by decide +kernel)
        · replace hg := (if_neg htm15).symm.trans hg
          by_cases htm14 : a0 = (-14)
          · replace hg := (if_pos htm14).symm.trans hg
            refine rf_tabc C htm14 52 (by decide +kernel) ?_
            refine rf_seg C [(.iconst 3, 1)] (pc' := 53) (S' := ([(0, .int a0)], [.int 3], rf_MM w m)) (by decide +kernel) rfl trivial ?_
            obtain rfl := Option.some.inj hg
            exact rf_iret C hE (by decide +kernel)
          · replace hg := (if_neg htm14).symm.trans hg
            by_cases htm13 : a0 = (-13)
            · replace hg := (if_pos htm13).symm.trans hg
              refine rf_tabc C htm13 50 (by decide +kernel) ?_
              refine rf_seg C [(.iconst 2, 1)] (pc' := 51) (S' := ([(0, .int a0)], [.int 2], rf_MM w m)) (by decide +kernel) rfl trivial ?_
              obtain rfl := Option.some.inj hg
              exact rf_iret C hE (by decide +kernel)
            · replace hg := (if_neg htm13).symm.trans hg
              by_cases htm12 : a0 = (-12)
              · replace hg := (if_pos htm12).symm.trans hg
                refine rf_tabc C htm12 50 (by decide +kernel) ?_
                refine rf_seg C [(.iconst 2, 1)] (pc' := 51) (S' := ([(0, .int a0)], [.int 2], rf_MM w m)) (by decide +kernel) rfl trivial ?_
                obtain rfl := Option.some.inj hg
                exact rf_iret C hE (by decide +kernel)
              · replace hg := (if_neg htm12).symm.trans hg
                by_cases htm11 : a0 = (-11)
                · replace hg := (if_pos htm11).symm.trans hg
                  refine rf_tabc C htm11 48 (by decide +kernel) ?_
                  refine rf_seg C [(.iconst 1, 1)] (pc' := 49) (S' := ([(0, .int a0)], [.int 1], rf_MM w m)) (by decide +kernel) rfl trivial ?_
                  obtain rfl := Option.some.inj hg
                  exact rf_iret C hE (by decide +kernel)
                · replace hg := (if_neg htm11).symm.trans hg
                  refine rf_tabd C (-18) (-11) 58 (by decide +kernel) (by have t0 : (a0).toInt ≠ (-18) := rf_ti htm18; have t1 : (a0).toInt ≠ (-17) := rf_ti htm17; have t2 : (a0).toInt ≠ (-16) := rf_ti htm16; have t3 : (a0).toInt ≠ (-15) := rf_ti htm15; have t4 : (a0).toInt ≠ (-14) := rf_ti htm14; have t5 : (a0).toInt ≠ (-13) := rf_ti htm13; have t6 : (a0).toInt ≠ (-12) := rf_ti htm12; have t7 : (a0).toInt ≠ (-11) := rf_ti htm11; omega) ?_
                  refine rf_seg C [(.iconst 6, 2)] (pc' := 60) (S' := ([(0, .int a0)], [.int 6], rf_MM w m)) (by decide +kernel) rfl trivial ?_
                  obtain rfl := Option.some.inj hg
                  exact rf_iret C hE (by decide +kernel)
-- X8_release
abbrev j_X8_release : rf_J := (8, yX8_release, cX8_release, 2, none)
theorem mw_X8_release : rf_mv j_X8_release (rf_R 8) 1 := ⟨⟨rf_mem 45 (by decide +kernel), rf_mem 45 (by decide +kernel), rf_mem 2 (by decide +kernel), rf_mem 45 (by decide +kernel)⟩, by decide +kernel, by decide⟩
def g_X8_release_0_b (w : rf_w) (rec0 : Int32 → rf_m → Option (rf_m)) (a1 : Int32) (m : rf_m) : Option (rf_m) := (if (m.1 14 18) ≤ 0 then some m else rf_g (rf_in ((m.1 14 18) - 1) 160) (rf_b (g_X8_looseness w m (m.1 17 (Int32.toNatClampNeg ((m.1 14 18) - 1)))) fun y1 m1 => rf_b (g_X8_looseness w m1 a1) fun y2 m2 => (if y2 < y1 then some m2 else rf_g (rf_in ((m2.1 14 18) - 1) 160) ((if (m2.1 17 (Int32.toNatClampNeg ((m2.1 14 18) - 1))) = ((-20)) then some m2 else rf_g (rf_in ((rf_i m2 14 18 ((m2.1 14 18) - 1)).1 14 18) 160) (rf_bv (g_X8_write w (rf_i m2 14 18 ((m2.1 14 18) - 1)) ((rf_i m2 14 18 ((m2.1 14 18) - 1)).1 17 (Int32.toNatClampNeg ((rf_i m2 14 18 ((m2.1 14 18) - 1)).1 14 18)))) fun m5 => rec0 a1 m5))))))
def g_X8_release_0 (w : rf_w) : Nat → Int32 → rf_m → Option (rf_m)
  | 0, _, _ => none
  | n + 1, a1, m => g_X8_release_0_b w (g_X8_release_0 w n) a1 m
def g_X8_release (w : rf_w) (m : rf_m) (a1 : Int32) : Option (rf_m) := g_X8_release_0 w rf_fuel a1 m
theorem s_X8_release_0_b {w : rf_w} {K : rf_K} {r : rf_m} (C : rf_Ctx 8 cX8_release 2 2 (rf_sh w) K) (hE : rf_End none K (rf_sh w) 0 0 none (rf_MM w r)) {rec0 : Int32 → rf_m → Option (rf_m)} (hr0 : ∀ (a1 : Int32) (m : rf_m), rec0 a1 m = some r → rf_V 2 (rf_sh w) K 0 0 0 ([(0, .ref 14), (1, .int a1)], [], rf_MM w m)) (a1 : Int32) (m : rf_m) (hg : g_X8_release_0_b w rec0 a1 m = some r) : rf_V 2 (rf_sh w) K 0 0 0 ([(0, .ref 14), (1, .int a1)], [], rf_MM w m) := by
  unfold g_X8_release_0_b at hg
  refine rf_seg C [(.aload 0, 1), (.invokeinterface 8 18, 3)] (pc' := 4) (S' := ([(0, .ref 14), (1, .int a1)], [.int (m.1 14 18)], rf_MM w m)) (by decide +kernel) rfl trivial ?_
  refine rf_if_le C 66 70 (by decide +kernel) (fun hc => ?_) (fun hc => ?_)
  · replace hg := (if_pos hc).symm.trans hg
    obtain rfl := Option.some.inj hg
    exact rf_vret C hE (by decide +kernel)
  · replace hg := (if_neg hc).symm.trans hg
    obtain ⟨q0, hg⟩ := rf_g_some hg
    refine rf_seg C [(.aload 0, 1), (.invokeinterface 8 17, 3), (.aload 0, 1), (.invokeinterface 8 18, 3), (.iconst 1, 1), (.isub, 1), (.iaload, 1)] (pc' := 18) (S' := ([(0, .ref 14), (1, .int a1)], [.int (m.1 17 (Int32.toNatClampNeg ((m.1 14 18) - 1)))], rf_MM w m)) (by decide +kernel) rfl (rf_in_of q0) ?_
    obtain ⟨y1, m1, hc1, hg⟩ := rf_b_some hg
    refine rf_calls C rf_fit0 j_X8_looseness (As := [.int (m.1 17 (Int32.toNatClampNeg ((m.1 14 18) - 1)))]) (rest := []) mw_X8_looseness (c_X8_looseness hc1) (by decide) lk_8_143 rfl rfl (Nat.le_of_ble_eq_true rfl) (by decide +kernel) ?_
    show rf_V 2 (rf_sh w) K 0 0 21 ([(0, .ref 14), (1, .int a1)], [.int y1], rf_MM w m1)
    refine rf_seg C [(.iload 1, 1)] (pc' := 22) (S' := ([(0, .ref 14), (1, .int a1)], [.int a1, .int y1], rf_MM w m1)) (by decide +kernel) rfl trivial ?_
    obtain ⟨y2, m2, hc2, hg⟩ := rf_b_some hg
    refine rf_calls C rf_fit0 j_X8_looseness (As := [.int a1]) (rest := [.int y1]) mw_X8_looseness (c_X8_looseness hc2) (by decide) lk_8_143 rfl rfl (Nat.le_of_ble_eq_true rfl) (by decide +kernel) ?_
    show rf_V 2 (rf_sh w) K 0 0 25 ([(0, .ref 14), (1, .int a1)], [.int y2, .int y1], rf_MM w m2)
    refine rf_icmp_gt C 45 70 (by decide +kernel) (fun hc => ?_) (fun hc => ?_)
    · replace hg := (if_pos hc).symm.trans hg
      obtain rfl := Option.some.inj hg
      exact rf_vret C hE (by decide +kernel)
    · replace hg := (if_neg hc).symm.trans hg
      obtain ⟨q3, hg⟩ := rf_g_some hg
      refine rf_seg C [(.aload 0, 1), (.invokeinterface 8 17, 3), (.aload 0, 1), (.invokeinterface 8 18, 3), (.iconst 1, 1), (.isub, 1), (.iaload, 1), (.iconst (-20), 2)] (pc' := 41) (S' := ([(0, .ref 14), (1, .int a1)], [.int ((-20)), .int (m2.1 17 (Int32.toNatClampNeg ((m2.1 14 18) - 1)))], rf_MM w m2)) (by decide +kernel) rfl (rf_in_of q3) ?_
      refine rf_icmp_eq C 29 70 (by decide +kernel) (fun hc => ?_) (fun hc => ?_)
      · replace hg := (if_pos hc).symm.trans hg
        obtain rfl := Option.some.inj hg
        exact rf_vret C hE (by decide +kernel)
      · replace hg := (if_neg hc).symm.trans hg
        obtain ⟨q4, hg⟩ := rf_g_some hg
        refine rf_seg C [(.aload 0, 1), (.dup, 1), (.invokeinterface 8 18, 3), (.iconst 1, 1), (.isub, 1), (.multianewarray 8 18, 3), (.aload 0, 1), (.aload 0, 1), (.invokeinterface 8 17, 3), (.aload 0, 1), (.invokeinterface 8 18, 3), (.iaload, 1)] (pc' := 64) (S' := ([(0, .ref 14), (1, .int a1)], [.int ((rf_i m2 14 18 ((m2.1 14 18) - 1)).1 17 (Int32.toNatClampNeg ((rf_i m2 14 18 ((m2.1 14 18) - 1)).1 14 18))), .ref 14], rf_MM w (rf_i m2 14 18 ((m2.1 14 18) - 1)))) (by decide +kernel) rfl (rf_in_of q4) ?_
        obtain ⟨m5, hc5, hg⟩ := rf_bv_some hg
        refine rf_callv C rf_fit0 j_X8_write (ci := 8) (As := [.int ((rf_i m2 14 18 ((m2.1 14 18) - 1)).1 17 (Int32.toNatClampNeg ((rf_i m2 14 18 ((m2.1 14 18) - 1)).1 14 18)))]) (rest := []) mw_X8_write (c_X8_write hc5) (by decide) rfl (by decide) lk_8_123 rfl rfl (Nat.le_of_ble_eq_true rfl) (by decide +kernel) ?_
        show rf_V 2 (rf_sh w) K 0 0 67 ([(0, .ref 14), (1, .int a1)], [], rf_MM w m5)
        refine rf_goto C (-67) 0 (by decide +kernel) ?_
        refine rf_few [0, 1] rfl ?_
        exact hr0 a1 m5 hg
theorem s_X8_release_0 {w : rf_w} {K : rf_K} {r : rf_m} (C : rf_Ctx 8 cX8_release 2 2 (rf_sh w) K) (hE : rf_End none K (rf_sh w) 0 0 none (rf_MM w r)) (n : Nat) : ∀ (a1 : Int32) (m : rf_m), g_X8_release_0 w n a1 m = some r → rf_V 2 (rf_sh w) K 0 0 0 ([(0, .ref 14), (1, .int a1)], [], rf_MM w m) := by
  induction n with
  | zero => intro a1 m hg; cases hg
  | succ n ih => intro a1 m hg; exact s_X8_release_0_b C hE ih a1 m hg
theorem c_X8_release {w : rf_w} {m : rf_m} {a1 : Int32} {r : rf_m} (hg : g_X8_release w m a1 = some r) : rf_Con j_X8_release 2 (rf_sh w) [.ref 14, .int a1] (rf_MM w m) none (rf_MM w r) := by
  refine rf_con j_X8_release 2 ⟨by decide +kernel, rfl, Nat.le_of_ble_eq_true rfl⟩ (fun K C hE => ?_)
  unfold g_X8_release at hg
  show rf_V 2 (rf_sh w) K 0 0 0 ([(0, .ref 14), (1, .int a1)], [], rf_MM w m)
  refine rf_few [0, 1] rfl ?_
  exact s_X8_release_0 C hE rf_fuel a1 m hg
-- X8_join
abbrev j_X8_join : rf_J := (8, yX8_join, cX8_join, 3, none)
theorem mw_X8_join : rf_mv j_X8_join (rf_R 8) 2 := ⟨⟨rf_mem 45 (by decide +kernel), rf_mem 45 (by decide +kernel), rf_mem 2 (by decide +kernel), rf_mem 45 (by decide +kernel)⟩, by decide +kernel, by decide⟩
def g_X8_join (w : rf_w) (m : rf_m) (a1 : Int32) (a2 : Int32) : Option (rf_m) := rf_bv (g_X8_release w m a1) fun m0 => rf_bv (g_X8_hold w m0 a1) fun m1 => some (rf_i m1 14 12 a2)
theorem c_X8_join {w : rf_w} {m : rf_m} {a1 : Int32} {a2 : Int32} {r : rf_m} (hg : g_X8_join w m a1 a2 = some r) : rf_Con j_X8_join 3 (rf_sh w) [.ref 14, .int a1, .int a2] (rf_MM w m) none (rf_MM w r) := by
  refine rf_con j_X8_join 3 ⟨by decide +kernel, rfl, Nat.le_of_ble_eq_true rfl⟩ (fun K C hE => ?_)
  unfold g_X8_join at hg
  show rf_V 3 (rf_sh w) K 0 0 0 ([(0, .ref 14), (1, .int a1), (2, .int a2)], [], rf_MM w m)
  refine rf_seg C [(.aload 0, 1), (.iload 1, 1)] (pc' := 2) (S' := ([(0, .ref 14), (1, .int a1), (2, .int a2)], [.int a1, .ref 14], rf_MM w m)) (by decide +kernel) rfl trivial ?_
  obtain ⟨m0, hc0, hg⟩ := rf_bv_some hg
  refine rf_callv C rf_fit0 j_X8_release (ci := 8) (As := [.int a1]) (rest := []) mw_X8_release (c_X8_release hc0) (by decide) rfl (by decide) lk_8_136 rfl rfl (Nat.le_of_ble_eq_true rfl) (by decide +kernel) ?_
  show rf_V 3 (rf_sh w) K 0 0 5 ([(0, .ref 14), (1, .int a1), (2, .int a2)], [], rf_MM w m0)
  refine rf_seg C [(.aload 0, 1), (.iload 1, 1)] (pc' := 7) (S' := ([(0, .ref 14), (1, .int a1), (2, .int a2)], [.int a1, .ref 14], rf_MM w m0)) (by decide +kernel) rfl trivial ?_
  obtain ⟨m1, hc1, hg⟩ := rf_bv_some hg
  refine rf_callv C rf_fit0 j_X8_hold (ci := 8) (As := [.int a1]) (rest := []) mw_X8_hold (c_X8_hold hc1) (by decide) rfl (by decide) lk_8_114 rfl rfl (Nat.le_of_ble_eq_true rfl) (by decide +kernel) ?_
  show rf_V 3 (rf_sh w) K 0 0 10 ([(0, .ref 14), (1, .int a1), (2, .int a2)], [], rf_MM w m1)
  refine rf_seg C [(.aload 0, 1), (.iload 2, 1), (.multianewarray 8 12, 3)] (pc' := 15) (S' := ([(0, .ref 14), (1, .int a1), (2, .int a2)], [], rf_MM w (rf_i m1 14 12 a2))) (by decide +kernel) rfl trivial ?_
  obtain rfl := Option.some.inj hg
  exact rf_vret C hE (by decide +kernel)
-- X8_isLetter
abbrev j_X8_isLetter : rf_J := (8, yX8_isLetter, cX8_isLetter, 1, (some .boolean))
theorem mw_X8_isLetter : rf_ms j_X8_isLetter 1 := ⟨⟨rf_mem 37 (by decide +kernel), rf_mem 2 (by decide +kernel), rf_mem 37 (by decide +kernel)⟩, by decide +kernel, by decide⟩
def g_X8_isLetter (w : rf_w) (m : rf_m) (a0 : Int32) : Option (Int32 × rf_m) := (if a0 < 97 then some (0, m) else (if 122 < a0 then some (0, m) else some (1, m)))
theorem c_X8_isLetter {w : rf_w} {m : rf_m} {a0 : Int32} {r : Int32 × rf_m} (hg : g_X8_isLetter w m a0 = some r) : rf_Con j_X8_isLetter 1 (rf_sh w) [.int a0] (rf_MM w m) (some (.int r.1)) (rf_MM w r.2) := by
  refine rf_con j_X8_isLetter 1 ⟨by decide +kernel, rfl, Nat.le_of_ble_eq_true rfl⟩ (fun K C hE => ?_)
  unfold g_X8_isLetter at hg
  show rf_V 1 (rf_sh w) K 0 0 0 ([(0, .int a0)], [], rf_MM w m)
  refine rf_seg C [(.iload 0, 1), (.iconst 97, 2)] (pc' := 3) (S' := ([(0, .int a0)], [.int 97, .int a0], rf_MM w m)) (by decide +kernel) rfl trivial ?_
  refine rf_icmp_lt C 13 16 (by decide +kernel) (fun hc => ?_) (fun hc => ?_)
  · replace hg := (if_pos hc).symm.trans hg
    refine rf_seg C [(.iconst 0, 1)] (pc' := 17) (S' := ([(0, .int a0)], [.int 0], rf_MM w m)) (by decide +kernel) rfl trivial ?_
    obtain rfl := Option.some.inj hg
    exact rf_zret C hE (by decide) (by decide +kernel)
  · replace hg := (if_neg hc).symm.trans hg
    refine rf_seg C [(.iload 0, 1), (.iconst 122, 2)] (pc' := 9) (S' := ([(0, .int a0)], [.int 122, .int a0], rf_MM w m)) (by decide +kernel) rfl trivial ?_
    refine rf_icmp_gt C 7 16 (by decide +kernel) (fun hc => ?_) (fun hc => ?_)
    · replace hg := (if_pos hc).symm.trans hg
      refine rf_seg C [(.iconst 0, 1)] (pc' := 17) (S' := ([(0, .int a0)], [.int 0], rf_MM w m)) (by decide +kernel) rfl trivial ?_
      obtain rfl := Option.some.inj hg
      exact rf_zret C hE (by decide) (by decide +kernel)
    · replace hg := (if_neg hc).symm.trans hg
      refine rf_seg C [(.iconst 1, 1)] (pc' := 13) (S' := ([(0, .int a0)], [.int 1], rf_MM w m)) (by decide +kernel) rfl trivial ?_
      refine rf_goto C 4 17 (by decide +kernel) ?_
      obtain rfl := Option.some.inj hg
      exact rf_zret C hE (by decide) (by decide +kernel)
-- X8_takeWord
abbrev j_X8_takeWord : rf_J := (8, yX8_takeWord, cX8_takeWord, 1, none)
theorem mw_X8_takeWord : rf_mv j_X8_takeWord (rf_R 8) 0 := ⟨⟨rf_mem 37 (by decide +kernel), rf_mem 37 (by decide +kernel), rf_mem 2 (by decide +kernel), rf_mem 37 (by decide +kernel)⟩, by decide +kernel, by decide⟩
def g_X8_takeWord_39 (w : rf_w) (m : rf_m) : Option (rf_m) := (if 8 < ((m.1 14 9) - (m.1 14 8)) then some (rf_i m 14 10 1) else some (rf_i m 14 10 2))
def g_X8_takeWord_0_b (w : rf_w) (rec0 : rf_m → Option (rf_m)) (m : rf_m) : Option (rf_m) := (if (m.1 14 7) ≤ (m.1 14 9) then g_X8_takeWord_39 w m else rf_g (rf_in (m.1 14 9) 300) (rf_b (g_X8_isLetter w m (m.1 15 (Int32.toNatClampNeg (m.1 14 9)))) fun y1 m1 => (if y1 = 0 then g_X8_takeWord_39 w m1 else rec0 (rf_i m1 14 9 ((m1.1 14 9) + 1)))))
def g_X8_takeWord_0 (w : rf_w) : Nat → rf_m → Option (rf_m)
  | 0, _ => none
  | n + 1, m => g_X8_takeWord_0_b w (g_X8_takeWord_0 w n) m
def g_X8_takeWord (w : rf_w) (m : rf_m) : Option (rf_m) := g_X8_takeWord_0 w rf_fuel m
theorem s_X8_takeWord_39 {w : rf_w} {K : rf_K} {r : rf_m} (C : rf_Ctx 8 cX8_takeWord 1 2 (rf_sh w) K) (hE : rf_End none K (rf_sh w) 0 0 none (rf_MM w r)) (m : rf_m) (hg : g_X8_takeWord_39 w m = some r) : rf_V 1 (rf_sh w) K 0 0 39 ([(0, .ref 14)], [], rf_MM w m) := by
  unfold g_X8_takeWord_39 at hg
  refine rf_seg C [(.aload 0, 1), (.aload 0, 1), (.invokeinterface 8 9, 3), (.aload 0, 1), (.invokeinterface 8 8, 3), (.isub, 1), (.iconst 8, 2)] (pc' := 51) (S' := ([(0, .ref 14)], [.int 8, .int ((m.1 14 9) - (m.1 14 8)), .ref 14], rf_MM w m)) (by decide +kernel) rfl trivial ?_
  refine rf_icmp_gt C 7 58 (by decide +kernel) (fun hc => ?_) (fun hc => ?_)
  · replace hg := (if_pos hc).symm.trans hg
    refine rf_seg C [(.iconst 1, 1), (.multianewarray 8 10, 3)] (pc' := 62) (S' := ([(0, .ref 14)], [], rf_MM w (rf_i m 14 10 1))) (by decide +kernel) rfl trivial ?_
    obtain rfl := Option.some.inj hg
    exact rf_vret C hE (by decide +kernel)
  · replace hg := (if_neg hc).symm.trans hg
    refine rf_seg C [(.iconst 2, 1)] (pc' := 55) (S' := ([(0, .ref 14)], [.int 2, .ref 14], rf_MM w m)) (by decide +kernel) rfl trivial ?_
    refine rf_goto C 4 59 (by decide +kernel) ?_
    refine rf_seg C [(.multianewarray 8 10, 3)] (pc' := 62) (S' := ([(0, .ref 14)], [], rf_MM w (rf_i m 14 10 2))) (by decide +kernel) rfl trivial ?_
    obtain rfl := Option.some.inj hg
    exact rf_vret C hE (by decide +kernel)
theorem s_X8_takeWord_0_b {w : rf_w} {K : rf_K} {r : rf_m} (C : rf_Ctx 8 cX8_takeWord 1 2 (rf_sh w) K) (hE : rf_End none K (rf_sh w) 0 0 none (rf_MM w r)) {rec0 : rf_m → Option (rf_m)} (hr0 : ∀ (m : rf_m), rec0 m = some r → rf_V 1 (rf_sh w) K 0 0 0 ([(0, .ref 14)], [], rf_MM w m)) (m : rf_m) (hg : g_X8_takeWord_0_b w rec0 m = some r) : rf_V 1 (rf_sh w) K 0 0 0 ([(0, .ref 14)], [], rf_MM w m) := by
  unfold g_X8_takeWord_0_b at hg
  refine rf_seg C [(.aload 0, 1), (.invokeinterface 8 9, 3), (.aload 0, 1), (.invokeinterface 8 7, 3)] (pc' := 8) (S' := ([(0, .ref 14)], [.int (m.1 14 7), .int (m.1 14 9)], rf_MM w m)) (by decide +kernel) rfl trivial ?_
  refine rf_icmp_ge C 31 39 (by decide +kernel) (fun hc => ?_) (fun hc => ?_)
  · replace hg := (if_pos hc).symm.trans hg
    refine rf_few [0] rfl ?_
    exact s_X8_takeWord_39 C hE m hg
  · replace hg := (if_neg hc).symm.trans hg
    obtain ⟨q0, hg⟩ := rf_g_some hg
    refine rf_seg C [(.aload 0, 1), (.invokeinterface 8 0, 3), (.aload 0, 1), (.invokeinterface 8 9, 3), (.iaload, 1)] (pc' := 20) (S' := ([(0, .ref 14)], [.int (m.1 15 (Int32.toNatClampNeg (m.1 14 9)))], rf_MM w m)) (by decide +kernel) rfl (rf_in_of q0) ?_
    obtain ⟨y1, m1, hc1, hg⟩ := rf_b_some hg
    refine rf_calls C rf_fit0 j_X8_isLetter (As := [.int (m.1 15 (Int32.toNatClampNeg (m.1 14 9)))]) (rest := []) mw_X8_isLetter (c_X8_isLetter hc1) (by decide) lk_8_150 rfl rfl (Nat.le_of_ble_eq_true rfl) (by decide +kernel) ?_
    show rf_V 1 (rf_sh w) K 0 0 23 ([(0, .ref 14)], [.int y1], rf_MM w m1)
    refine rf_if_eq C 16 39 (by decide +kernel) (fun hc => ?_) (fun hc => ?_)
    · replace hg := (if_pos hc).symm.trans hg
      refine rf_few [0] rfl ?_
      exact s_X8_takeWord_39 C hE m1 hg
    · replace hg := (if_neg hc).symm.trans hg
      refine rf_seg C [(.aload 0, 1), (.dup, 1), (.invokeinterface 8 9, 3), (.iconst 1, 1), (.iadd, 1), (.multianewarray 8 9, 3)] (pc' := 36) (S' := ([(0, .ref 14)], [], rf_MM w (rf_i m1 14 9 ((m1.1 14 9) + 1)))) (by decide +kernel) rfl trivial ?_
      refine rf_goto C (-36) 0 (by decide +kernel) ?_
      refine rf_few [0] rfl ?_
      exact hr0 (rf_i m1 14 9 ((m1.1 14 9) + 1)) hg
theorem s_X8_takeWord_0 {w : rf_w} {K : rf_K} {r : rf_m} (C : rf_Ctx 8 cX8_takeWord 1 2 (rf_sh w) K) (hE : rf_End none K (rf_sh w) 0 0 none (rf_MM w r)) (n : Nat) : ∀ (m : rf_m), g_X8_takeWord_0 w n m = some r → rf_V 1 (rf_sh w) K 0 0 0 ([(0, .ref 14)], [], rf_MM w m) := by
  induction n with
  | zero => intro m hg; cases hg
  | succ n ih => intro m hg; exact s_X8_takeWord_0_b C hE ih m hg
theorem c_X8_takeWord {w : rf_w} {m : rf_m} {r : rf_m} (hg : g_X8_takeWord w m = some r) : rf_Con j_X8_takeWord 2 (rf_sh w) [.ref 14] (rf_MM w m) none (rf_MM w r) := by
  refine rf_con j_X8_takeWord 2 ⟨by decide +kernel, rfl, Nat.le_of_ble_eq_true rfl⟩ (fun K C hE => ?_)
  unfold g_X8_takeWord at hg
  show rf_V 1 (rf_sh w) K 0 0 0 ([(0, .ref 14)], [], rf_MM w m)
  refine rf_few [0] rfl ?_
  exact s_X8_takeWord_0 C hE rf_fuel m hg
-- X8_isDigit
abbrev j_X8_isDigit : rf_J := (8, yX8_isDigit, cX8_isDigit, 1, (some .boolean))
theorem mw_X8_isDigit : rf_ms j_X8_isDigit 1 := ⟨⟨rf_mem 37 (by decide +kernel), rf_mem 2 (by decide +kernel), rf_mem 37 (by decide +kernel)⟩, by decide +kernel, by decide⟩
def g_X8_isDigit (w : rf_w) (m : rf_m) (a0 : Int32) : Option (Int32 × rf_m) := (if a0 < 48 then some (0, m) else (if 57 < a0 then some (0, m) else some (1, m)))
theorem c_X8_isDigit {w : rf_w} {m : rf_m} {a0 : Int32} {r : Int32 × rf_m} (hg : g_X8_isDigit w m a0 = some r) : rf_Con j_X8_isDigit 1 (rf_sh w) [.int a0] (rf_MM w m) (some (.int r.1)) (rf_MM w r.2) := by
  refine rf_con j_X8_isDigit 1 ⟨by decide +kernel, rfl, Nat.le_of_ble_eq_true rfl⟩ (fun K C hE => ?_)
  unfold g_X8_isDigit at hg
  show rf_V 1 (rf_sh w) K 0 0 0 ([(0, .int a0)], [], rf_MM w m)
  refine rf_seg C [(.iload 0, 1), (.iconst 48, 2)] (pc' := 3) (S' := ([(0, .int a0)], [.int 48, .int a0], rf_MM w m)) (by decide +kernel) rfl trivial ?_
  refine rf_icmp_lt C 13 16 (by decide +kernel) (fun hc => ?_) (fun hc => ?_)
  · replace hg := (if_pos hc).symm.trans hg
    refine rf_seg C [(.iconst 0, 1)] (pc' := 17) (S' := ([(0, .int a0)], [.int 0], rf_MM w m)) (by decide +kernel) rfl trivial ?_
    obtain rfl := Option.some.inj hg
    exact rf_zret C hE (by decide) (by decide +kernel)
  · replace hg := (if_neg hc).symm.trans hg
    refine rf_seg C [(.iload 0, 1), (.iconst 57, 2)] (pc' := 9) (S' := ([(0, .int a0)], [.int 57, .int a0], rf_MM w m)) (by decide +kernel) rfl trivial ?_
    refine rf_icmp_gt C 7 16 (by decide +kernel) (fun hc => ?_) (fun hc => ?_)
    · replace hg := (if_pos hc).symm.trans hg
      refine rf_seg C [(.iconst 0, 1)] (pc' := 17) (S' := ([(0, .int a0)], [.int 0], rf_MM w m)) (by decide +kernel) rfl trivial ?_
      obtain rfl := Option.some.inj hg
      exact rf_zret C hE (by decide) (by decide +kernel)
    · replace hg := (if_neg hc).symm.trans hg
      refine rf_seg C [(.iconst 1, 1)] (pc' := 13) (S' := ([(0, .int a0)], [.int 1], rf_MM w m)) (by decide +kernel) rfl trivial ?_
      refine rf_goto C 4 17 (by decide +kernel) ?_
      obtain rfl := Option.some.inj hg
      exact rf_zret C hE (by decide) (by decide +kernel)
-- X8_takeWhole
abbrev j_X8_takeWhole : rf_J := (8, yX8_takeWhole, cX8_takeWhole, 1, none)
theorem mw_X8_takeWhole : rf_mv j_X8_takeWhole (rf_R 8) 0 := ⟨⟨rf_mem 37 (by decide +kernel), rf_mem 37 (by decide +kernel), rf_mem 2 (by decide +kernel), rf_mem 38 (by decide +kernel)⟩, by decide +kernel, by decide⟩
def g_X8_takeWhole_68 (w : rf_w) (m : rf_m) : Option (rf_m) := (if 7 < ((m.1 14 9) - (m.1 14 8)) then some (rf_i m 14 10 1) else some (rf_i m 14 10 3))
def g_X8_takeWhole_5_b (w : rf_w) (rec5 : rf_m → Option (rf_m)) (m : rf_m) : Option (rf_m) := (if (m.1 14 7) ≤ (m.1 14 9) then g_X8_takeWhole_68 w m else rf_g (rf_in (m.1 14 9) 300) (rf_b (g_X8_isDigit w m (m.1 15 (Int32.toNatClampNeg (m.1 14 9)))) fun y1 m1 => (if y1 = 0 then g_X8_takeWhole_68 w m1 else rf_g (rf_in (m1.1 14 9) 300) (rec5 (rf_i (rf_i m1 14 11 ((((m1.1 14 11) * 10) + (m1.1 15 (Int32.toNatClampNeg (m1.1 14 9)))) - 48)) 14 9 (((rf_i m1 14 11 ((((m1.1 14 11) * 10) + (m1.1 15 (Int32.toNatClampNeg (m1.1 14 9)))) - 48)).1 14 9) + 1))))))
def g_X8_takeWhole_5 (w : rf_w) : Nat → rf_m → Option (rf_m)
  | 0, _ => none
  | n + 1, m => g_X8_takeWhole_5_b w (g_X8_takeWhole_5 w n) m
def g_X8_takeWhole (w : rf_w) (m : rf_m) : Option (rf_m) := g_X8_takeWhole_5 w rf_fuel (rf_i m 14 11 0)
theorem s_X8_takeWhole_68 {w : rf_w} {K : rf_K} {r : rf_m} (C : rf_Ctx 8 cX8_takeWhole 1 2 (rf_sh w) K) (hE : rf_End none K (rf_sh w) 0 0 none (rf_MM w r)) (m : rf_m) (hg : g_X8_takeWhole_68 w m = some r) : rf_V 1 (rf_sh w) K 0 0 68 ([(0, .ref 14)], [], rf_MM w m) := by
  unfold g_X8_takeWhole_68 at hg
  refine rf_seg C [(.aload 0, 1), (.aload 0, 1), (.invokeinterface 8 9, 3), (.aload 0, 1), (.invokeinterface 8 8, 3), (.isub, 1), (.iconst 7, 2)] (pc' := 80) (S' := ([(0, .ref 14)], [.int 7, .int ((m.1 14 9) - (m.1 14 8)), .ref 14], rf_MM w m)) (by decide +kernel) rfl trivial ?_
  refine rf_icmp_gt C 7 87 (by decide +kernel) (fun hc => ?_) (fun hc => ?_)
  · replace hg := (if_pos hc).symm.trans hg
    refine rf_seg C [(.iconst 1, 1), (.multianewarray 8 10, 3)] (pc' := 91) (S' := ([(0, .ref 14)], [], rf_MM w (rf_i m 14 10 1))) (by decide +kernel) rfl trivial ?_
    obtain rfl := Option.some.inj hg
    exact rf_vret C hE (by decide +kernel)
  · replace hg := (if_neg hc).symm.trans hg
    refine rf_seg C [(.iconst 3, 1)] (pc' := 84) (S' := ([(0, .ref 14)], [.int 3, .ref 14], rf_MM w m)) (by decide +kernel) rfl trivial ?_
    refine rf_goto C 4 88 (by decide +kernel) ?_
    refine rf_seg C [(.multianewarray 8 10, 3)] (pc' := 91) (S' := ([(0, .ref 14)], [], rf_MM w (rf_i m 14 10 3))) (by decide +kernel) rfl trivial ?_
    obtain rfl := Option.some.inj hg
    exact rf_vret C hE (by decide +kernel)
theorem s_X8_takeWhole_5_b {w : rf_w} {K : rf_K} {r : rf_m} (C : rf_Ctx 8 cX8_takeWhole 1 2 (rf_sh w) K) (hE : rf_End none K (rf_sh w) 0 0 none (rf_MM w r)) {rec5 : rf_m → Option (rf_m)} (hr5 : ∀ (m : rf_m), rec5 m = some r → rf_V 1 (rf_sh w) K 0 0 5 ([(0, .ref 14)], [], rf_MM w m)) (m : rf_m) (hg : g_X8_takeWhole_5_b w rec5 m = some r) : rf_V 1 (rf_sh w) K 0 0 5 ([(0, .ref 14)], [], rf_MM w m) := by
  unfold g_X8_takeWhole_5_b at hg
  refine rf_seg C [(.aload 0, 1), (.invokeinterface 8 9, 3), (.aload 0, 1), (.invokeinterface 8 7, 3)] (pc' := 13) (S' := ([(0, .ref 14)], [.int (m.1 14 7), .int (m.1 14 9)], rf_MM w m)) (by decide +kernel) rfl trivial ?_
  refine rf_icmp_ge C 55 68 (by decide +kernel) (fun hc => ?_) (fun hc => ?_)
  · replace hg := (if_pos hc).symm.trans hg
    refine rf_few [0] rfl ?_
    exact s_X8_takeWhole_68 C hE m hg
  · replace hg := (if_neg hc).symm.trans hg
    obtain ⟨q0, hg⟩ := rf_g_some hg
    refine rf_seg C [(.aload 0, 1), (.invokeinterface 8 0, 3), (.aload 0, 1), (.invokeinterface 8 9, 3), (.iaload, 1)] (pc' := 25) (S' := ([(0, .ref 14)], [.int (m.1 15 (Int32.toNatClampNeg (m.1 14 9)))], rf_MM w m)) (by decide +kernel) rfl (rf_in_of q0) ?_
    obtain ⟨y1, m1, hc1, hg⟩ := rf_b_some hg
    refine rf_calls C rf_fit0 j_X8_isDigit (As := [.int (m.1 15 (Int32.toNatClampNeg (m.1 14 9)))]) (rest := []) mw_X8_isDigit (c_X8_isDigit hc1) (by decide) lk_8_157 rfl rfl (Nat.le_of_ble_eq_true rfl) (by decide +kernel) ?_
    show rf_V 1 (rf_sh w) K 0 0 28 ([(0, .ref 14)], [.int y1], rf_MM w m1)
    refine rf_if_eq C 40 68 (by decide +kernel) (fun hc => ?_) (fun hc => ?_)
    · replace hg := (if_pos hc).symm.trans hg
      refine rf_few [0] rfl ?_
      exact s_X8_takeWhole_68 C hE m1 hg
    · replace hg := (if_neg hc).symm.trans hg
      obtain ⟨q2, hg⟩ := rf_g_some hg
      refine rf_seg C [(.aload 0, 1), (.aload 0, 1), (.invokeinterface 8 11, 3), (.iconst 10, 2), (.imul, 1), (.aload 0, 1), (.invokeinterface 8 0, 3), (.aload 0, 1), (.invokeinterface 8 9, 3), (.iaload, 1), (.iadd, 1), (.iconst 48, 2), (.isub, 1), (.multianewarray 8 11, 3), (.aload 0, 1), (.dup, 1), (.invokeinterface 8 9, 3), (.iconst 1, 1), (.iadd, 1), (.multianewarray 8 9, 3)] (pc' := 65) (S' := ([(0, .ref 14)], [], rf_MM w (rf_i (rf_i m1 14 11 ((((m1.1 14 11) * 10) + (m1.1 15 (Int32.toNatClampNeg (m1.1 14 9)))) - 48)) 14 9 (((rf_i m1 14 11 ((((m1.1 14 11) * 10) + (m1.1 15 (Int32.toNatClampNeg (m1.1 14 9)))) - 48)).1 14 9) + 1)))) (by decide +kernel) rfl (rf_in_of q2) ?_
      refine rf_goto C (-60) 5 (by decide +kernel) ?_
      refine rf_few [0] rfl ?_
      exact hr5 (rf_i (rf_i m1 14 11 ((((m1.1 14 11) * 10) + (m1.1 15 (Int32.toNatClampNeg (m1.1 14 9)))) - 48)) 14 9 (((rf_i m1 14 11 ((((m1.1 14 11) * 10) + (m1.1 15 (Int32.toNatClampNeg (m1.1 14 9)))) - 48)).1 14 9) + 1)) hg
theorem s_X8_takeWhole_5 {w : rf_w} {K : rf_K} {r : rf_m} (C : rf_Ctx 8 cX8_takeWhole 1 2 (rf_sh w) K) (hE : rf_End none K (rf_sh w) 0 0 none (rf_MM w r)) (n : Nat) : ∀ (m : rf_m), g_X8_takeWhole_5 w n m = some r → rf_V 1 (rf_sh w) K 0 0 5 ([(0, .ref 14)], [], rf_MM w m) := by
  induction n with
  | zero => intro m hg; cases hg
  | succ n ih => intro m hg; exact s_X8_takeWhole_5_b C hE ih m hg
theorem c_X8_takeWhole {w : rf_w} {m : rf_m} {r : rf_m} (hg : g_X8_takeWhole w m = some r) : rf_Con j_X8_takeWhole 2 (rf_sh w) [.ref 14] (rf_MM w m) none (rf_MM w r) := by
  refine rf_con j_X8_takeWhole 2 ⟨by decide +kernel, rfl, Nat.le_of_ble_eq_true rfl⟩ (fun K C hE => ?_)
  unfold g_X8_takeWhole at hg
  show rf_V 1 (rf_sh w) K 0 0 0 ([(0, .ref 14)], [], rf_MM w m)
  refine rf_seg C [(.aload 0, 1), (.iconst 0, 1), (.multianewarray 8 11, 3)] (pc' := 5) (S' := ([(0, .ref 14)], [], rf_MM w (rf_i m 14 11 0))) (by decide +kernel) rfl trivial ?_
  refine rf_few [0] rfl ?_
  exact s_X8_takeWhole_5 C hE rf_fuel (rf_i m 14 11 0) hg
-- X9_takeFour
abbrev j_X9_takeFour : rf_J := (9, yX9_takeFour, cX9_takeFour, 3, none)
theorem mw_X9_takeFour : rf_mv j_X9_takeFour (rf_R 9) 1 := ⟨⟨rf_mem 35 (by decide +kernel), rf_mem 35 (by decide +kernel), rf_mem 0 (by decide +kernel), rf_mem 35 (by decide +kernel)⟩, by decide +kernel, by decide⟩
def g_X9_takeFour_3_b (w : rf_w) (rec3 : Int32 → Int32 → rf_m → Option (rf_m)) (a1 : Int32) (a2 : Int32) (m : rf_m) : Option (rf_m) := (if a2 < 0 then some m else rf_g (rf_in (m.1 13 2) 300) (rec3 a1 (a2 + (-8)) (rf_i (rf_i m 15 (Int32.toNatClampNeg (m.1 13 2)) (((Int32.toUInt32 a1 >>> (Int32.toUInt32 a2 &&& Int32.toUInt32 31)).toInt32) &&& 255)) 13 2 (((rf_i m 15 (Int32.toNatClampNeg (m.1 13 2)) (((Int32.toUInt32 a1 >>> (Int32.toUInt32 a2 &&& Int32.toUInt32 31)).toInt32) &&& 255)).1 13 2) + 1))))
def g_X9_takeFour_3 (w : rf_w) : Nat → Int32 → Int32 → rf_m → Option (rf_m)
  | 0, _, _, _ => none
  | n + 1, a1, a2, m => g_X9_takeFour_3_b w (g_X9_takeFour_3 w n) a1 a2 m
def g_X9_takeFour (w : rf_w) (m : rf_m) (a1 : Int32) : Option (rf_m) := g_X9_takeFour_3 w rf_fuel a1 24 m
theorem s_X9_takeFour_3_b {w : rf_w} {K : rf_K} {r : rf_m} (C : rf_Ctx 9 cX9_takeFour 3 1 (rf_sh w) K) (hE : rf_End none K (rf_sh w) 0 0 none (rf_MM w r)) {rec3 : Int32 → Int32 → rf_m → Option (rf_m)} (hr3 : ∀ (a1 : Int32) (a2 : Int32) (m : rf_m), rec3 a1 a2 m = some r → rf_V 3 (rf_sh w) K 0 0 3 ([(0, .ref 13), (1, .int a1), (2, .int a2)], [], rf_MM w m)) (a1 : Int32) (a2 : Int32) (m : rf_m) (hg : g_X9_takeFour_3_b w rec3 a1 a2 m = some r) : rf_V 3 (rf_sh w) K 0 0 3 ([(0, .ref 13), (1, .int a1), (2, .int a2)], [], rf_MM w m) := by
  unfold g_X9_takeFour_3_b at hg
  refine rf_seg C [(.iload 2, 1)] (pc' := 4) (S' := ([(0, .ref 13), (1, .int a1), (2, .int a2)], [.int a2], rf_MM w m)) (by decide +kernel) rfl trivial ?_
  refine rf_if_lt C 38 42 (by decide +kernel) (fun hc => ?_) (fun hc => ?_)
  · replace hg := (if_pos hc).symm.trans hg
    obtain rfl := Option.some.inj hg
    exact rf_vret C hE (by decide +kernel)
  · replace hg := (if_neg hc).symm.trans hg
    obtain ⟨q0, hg⟩ := rf_g_some hg
    refine rf_seg C [(.aload 0, 1), (.invokeinterface 9 0, 3), (.invokeinterface 8 0, 3), (.aload 0, 1), (.invokeinterface 9 2, 3), (.iload 1, 1), (.iload 2, 1), (.iushr, 1), (.iconst 255, 3), (.iand, 1), (.iastore, 1), (.aload 0, 1), (.dup, 1), (.invokeinterface 9 2, 3), (.iconst 1, 1), (.iadd, 1), (.multianewarray 9 2, 3), (.iinc 2 (-8), 3)] (pc' := 39) (S' := ([(2, .int (a2 + (-8))), (0, .ref 13), (1, .int a1)], [], rf_MM w (rf_i (rf_i m 15 (Int32.toNatClampNeg (m.1 13 2)) (((Int32.toUInt32 a1 >>> (Int32.toUInt32 a2 &&& Int32.toUInt32 31)).toInt32) &&& 255)) 13 2 (((rf_i m 15 (Int32.toNatClampNeg (m.1 13 2)) (((Int32.toUInt32 a1 >>> (Int32.toUInt32 a2 &&& Int32.toUInt32 31)).toInt32) &&& 255)).1 13 2) + 1)))) (by decide +kernel) rfl (rf_in_of q0) ?_
    refine rf_goto C (-36) 3 (by decide +kernel) ?_
    refine rf_few [1, 2, 0] rfl ?_
    exact hr3 a1 (a2 + (-8)) (rf_i (rf_i m 15 (Int32.toNatClampNeg (m.1 13 2)) (((Int32.toUInt32 a1 >>> (Int32.toUInt32 a2 &&& Int32.toUInt32 31)).toInt32) &&& 255)) 13 2 (((rf_i m 15 (Int32.toNatClampNeg (m.1 13 2)) (((Int32.toUInt32 a1 >>> (Int32.toUInt32 a2 &&& Int32.toUInt32 31)).toInt32) &&& 255)).1 13 2) + 1)) hg
theorem s_X9_takeFour_3 {w : rf_w} {K : rf_K} {r : rf_m} (C : rf_Ctx 9 cX9_takeFour 3 1 (rf_sh w) K) (hE : rf_End none K (rf_sh w) 0 0 none (rf_MM w r)) (n : Nat) : ∀ (a1 : Int32) (a2 : Int32) (m : rf_m), g_X9_takeFour_3 w n a1 a2 m = some r → rf_V 3 (rf_sh w) K 0 0 3 ([(0, .ref 13), (1, .int a1), (2, .int a2)], [], rf_MM w m) := by
  induction n with
  | zero => intro a1 a2 m hg; cases hg
  | succ n ih => intro a1 a2 m hg; exact s_X9_takeFour_3_b C hE ih a1 a2 m hg
theorem c_X9_takeFour {w : rf_w} {m : rf_m} {a1 : Int32} {r : rf_m} (hg : g_X9_takeFour w m a1 = some r) : rf_Con j_X9_takeFour 1 (rf_sh w) [.ref 13, .int a1] (rf_MM w m) none (rf_MM w r) := by
  refine rf_con j_X9_takeFour 1 ⟨by decide +kernel, rfl, Nat.le_of_ble_eq_true rfl⟩ (fun K C hE => ?_)
  unfold g_X9_takeFour at hg
  show rf_V 3 (rf_sh w) K 0 0 0 ([(0, .ref 13), (1, .int a1)], [], rf_MM w m)
  refine rf_seg C [(.iconst 24, 2), (.istore 2, 1)] (pc' := 3) (S' := ([(2, .int 24), (0, .ref 13), (1, .int a1)], [], rf_MM w m)) (by decide +kernel) rfl trivial ?_
  refine rf_few [1, 2, 0] rfl ?_
  exact s_X9_takeFour_3 C hE rf_fuel a1 24 m hg
