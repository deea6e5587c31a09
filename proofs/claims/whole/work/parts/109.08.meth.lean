/-! methods as functions, and their contracts (written by wip/tool/gen.py) -/
-- X14_pull
abbrev j_X14_pull : rf_J := (14, yX14_pull, cX14_pull, 7, (some .int))
theorem mw_X14_pull : rf_mv j_X14_pull (rf_R 14) 2 := ⟨⟨rf_mem 95 (by decide +kernel), rf_mem 95 (by decide +kernel), rf_mem 0 (by decide +kernel), rf_mem 95 (by decide +kernel)⟩, by decide +kernel, by decide⟩
def g_X14_pull_122 (w : rf_w) (rec22 : Int32 → Int32 → Int32 → Int32 → rf_m → Option (Int32 × rf_m)) (a1 : Int32) (a2 : Int32) (a3 : Int32) (a4 : Int32) (m : rf_m) : Option (Int32 × rf_m) := rec22 a1 a2 a3 (a4 + 1) m
def g_X14_pull_107 (w : rf_w) (rec22 : Int32 → Int32 → Int32 → Int32 → rf_m → Option (Int32 × rf_m)) (a1 : Int32) (a2 : Int32) (a4 : Int32) (a5 : Int32) (a6 : Int32) (s0 : Int32) (s1 : Int32) (s2 : Int32) (m : rf_m) : Option (Int32 × rf_m) := rf_g (rf_nz ((a5 * a5) + (a6 * a6))) (rf_vi (s0 + ((s1 * s2) / ((a5 * a5) + (a6 * a6)))) fun x1 => g_X14_pull_122 w rec22 a1 a2 x1 a4 m)
def g_X14_pull_88 (w : rf_w) (rec22 : Int32 → Int32 → Int32 → Int32 → rf_m → Option (Int32 × rf_m)) (a1 : Int32) (a2 : Int32) (a3 : Int32) (a4 : Int32) (a5 : Int32) (a6 : Int32) (m : rf_m) : Option (Int32 × rf_m) := rf_g (rf_in a4 12) ((if a2 = 0 then g_X14_pull_107 w rec22 a1 a2 a4 a5 a6 a3 (m.1 302 (Int32.toNatClampNeg a4)) a5 m else g_X14_pull_107 w rec22 a1 a2 a4 a5 a6 a3 (m.1 302 (Int32.toNatClampNeg a4)) a6 m))
def g_X14_pull_22_b (w : rf_w) (rec22 : Int32 → Int32 → Int32 → Int32 → rf_m → Option (Int32 × rf_m)) (a1 : Int32) (a2 : Int32) (a3 : Int32) (a4 : Int32) (m : rf_m) : Option (Int32 × rf_m) := (if (m.1 206 137) ≤ a4 then some (a3, m) else rf_g (rf_in a4 12) (rf_g (rf_in a1 30) (rf_vi (((m.1 301 (Int32.toNatClampNeg a4)) - (m.1 301 (Int32.toNatClampNeg a4)) / 32 * 32) - ((m.1 209 (Int32.toNatClampNeg a1)) - (m.1 209 (Int32.toNatClampNeg a1)) / 32 * 32)) fun x2 => rf_g (rf_in a4 12) (rf_g (rf_in a1 30) (rf_vi (((m.1 301 (Int32.toNatClampNeg a4)) / 32) - ((m.1 209 (Int32.toNatClampNeg a1)) / 32)) fun x5 => (if x2 = 0 then (if x5 = 0 then g_X14_pull_122 w rec22 a1 a2 a3 a4 m else g_X14_pull_88 w rec22 a1 a2 a3 a4 x2 x5 m) else g_X14_pull_88 w rec22 a1 a2 a3 a4 x2 x5 m))))))
def g_X14_pull_22 (w : rf_w) : Nat → Int32 → Int32 → Int32 → Int32 → rf_m → Option (Int32 × rf_m)
  | 0, _, _, _, _, _ => none
  | n + 1, a1, a2, a3, a4, m => g_X14_pull_22_b w (g_X14_pull_22 w n) a1 a2 a3 a4 m
def g_X14_pull (w : rf_w) (m : rf_m) (a1 : Int32) (a2 : Int32) : Option (Int32 × rf_m) := rf_b (g_X14_isMark w (rf_i m 206 0 0) a1) fun y0 m0 => (if y0 = 0 then some ((-2147483648), m0) else g_X14_pull_22 w rf_fuel a1 a2 0 0 m0)
theorem s_X14_pull_122 {w : rf_w} {K : rf_K} {r : Int32 × rf_m} (C : rf_Ctx 14 cX14_pull 7 2 (rf_sh w) K) (hE : rf_End (some .int) K (rf_sh w) 0 0 (some (.int r.1)) (rf_MM w r.2)) {rec22 : Int32 → Int32 → Int32 → Int32 → rf_m → Option (Int32 × rf_m)} (hr22 : ∀ (a1 : Int32) (a2 : Int32) (a3 : Int32) (a4 : Int32) (m : rf_m), rec22 a1 a2 a3 a4 m = some r → rf_V 7 (rf_sh w) K 0 0 22 ([(0, .ref 206), (1, .int a1), (2, .int a2), (3, .int a3), (4, .int a4)], [], rf_MM w m)) (a1 : Int32) (a2 : Int32) (a3 : Int32) (a4 : Int32) (m : rf_m) (hg : g_X14_pull_122 w rec22 a1 a2 a3 a4 m = some r) : rf_V 7 (rf_sh w) K 0 0 122 ([(0, .ref 206), (1, .int a1), (2, .int a2), (3, .int a3), (4, .int a4)], [], rf_MM w m) := by
  unfold g_X14_pull_122 at hg
  refine rf_seg C [(.iinc 4 1, 3)] (pc' := 125) (S' := ([(4, .int (a4 + 1)), (0, .ref 206), (1, .int a1), (2, .int a2), (3, .int a3)], [], rf_MM w m)) (by decide +kernel) rfl trivial ?_
  refine rf_goto C (-103) 22 (by decide +kernel) ?_
  refine rf_few [1, 2, 3, 4, 0] rfl ?_
  exact hr22 a1 a2 a3 (a4 + 1) m hg
theorem s_X14_pull_107 {w : rf_w} {K : rf_K} {r : Int32 × rf_m} (C : rf_Ctx 14 cX14_pull 7 2 (rf_sh w) K) (hE : rf_End (some .int) K (rf_sh w) 0 0 (some (.int r.1)) (rf_MM w r.2)) {rec22 : Int32 → Int32 → Int32 → Int32 → rf_m → Option (Int32 × rf_m)} (hr22 : ∀ (a1 : Int32) (a2 : Int32) (a3 : Int32) (a4 : Int32) (m : rf_m), rec22 a1 a2 a3 a4 m = some r → rf_V 7 (rf_sh w) K 0 0 22 ([(0, .ref 206), (1, .int a1), (2, .int a2), (3, .int a3), (4, .int a4)], [], rf_MM w m)) (a1 : Int32) (a2 : Int32) (a4 : Int32) (a5 : Int32) (a6 : Int32) (s0 : Int32) (s1 : Int32) (s2 : Int32) (m : rf_m) (hg : g_X14_pull_107 w rec22 a1 a2 a4 a5 a6 s0 s1 s2 m = some r) : rf_V 7 (rf_sh w) K 0 0 107 ([(0, .ref 206), (1, .int a1), (2, .int a2), (4, .int a4), (5, .int a5), (6, .int a6)], [.int s2, .int s1, .int s0], rf_MM w m) := by
  unfold g_X14_pull_107 at hg
  obtain ⟨q0, hg⟩ := rf_g_some hg
  refine rf_seg C [(.imul, 1), (.iload 5, 2), (.iload 5, 2), (.imul, 1), (.iload 6, 2), (.iload 6, 2), (.imul, 1), (.iadd, 1), (.idiv, 1), (.iadd, 1)] (pc' := 121) (S' := ([(0, .ref 206), (1, .int a1), (2, .int a2), (4, .int a4), (5, .int a5), (6, .int a6)], [.int (s0 + ((s1 * s2) / ((a5 * a5) + (a6 * a6))))], rf_MM w m)) (by decide +kernel) rfl (rf_nz_of q0) ?_
  obtain ⟨x1, hx1, hg⟩ := rf_vi_some hg
  refine rf_vi_top hx1 ?_
  refine rf_seg C [(.istore 3, 1)] (pc' := 122) (S' := ([(3, .int x1), (0, .ref 206), (1, .int a1), (2, .int a2), (4, .int a4), (5, .int a5), (6, .int a6)], [], rf_MM w m)) (by decide +kernel) rfl trivial ?_
  refine rf_few [1, 2, 3, 0, 4] rfl ?_
  exact s_X14_pull_122 C hE hr22 a1 a2 x1 a4 m hg
theorem s_X14_pull_88 {w : rf_w} {K : rf_K} {r : Int32 × rf_m} (C : rf_Ctx 14 cX14_pull 7 2 (rf_sh w) K) (hE : rf_End (some .int) K (rf_sh w) 0 0 (some (.int r.1)) (rf_MM w r.2)) {rec22 : Int32 → Int32 → Int32 → Int32 → rf_m → Option (Int32 × rf_m)} (hr22 : ∀ (a1 : Int32) (a2 : Int32) (a3 : Int32) (a4 : Int32) (m : rf_m), rec22 a1 a2 a3 a4 m = some r → rf_V 7 (rf_sh w) K 0 0 22 ([(0, .ref 206), (1, .int a1), (2, .int a2), (3, .int a3), (4, .int a4)], [], rf_MM w m)) (a1 : Int32) (a2 : Int32) (a3 : Int32) (a4 : Int32) (a5 : Int32) (a6 : Int32) (m : rf_m) (hg : g_X14_pull_88 w rec22 a1 a2 a3 a4 a5 a6 m = some r) : rf_V 7 (rf_sh w) K 0 0 88 ([(0, .ref 206), (1, .int a1), (2, .int a2), (3, .int a3), (4, .int a4), (5, .int a5), (6, .int a6)], [], rf_MM w m) := by
  unfold g_X14_pull_88 at hg
  obtain ⟨q0, hg⟩ := rf_g_some hg
  refine rf_seg C [(.iload 3, 1), (.aload 0, 1), (.invokeinterface 14 145, 3), (.iload 4, 2), (.iaload, 1), (.iload 2, 1)] (pc' := 97) (S' := ([(0, .ref 206), (1, .int a1), (2, .int a2), (3, .int a3), (4, .int a4), (5, .int a5), (6, .int a6)], [.int a2, .int (m.1 302 (Int32.toNatClampNeg a4)), .int a3], rf_MM w m)) (by decide +kernel) rfl (rf_in_of q0) ?_
  refine rf_if_eq C 8 105 (by decide +kernel) (fun hc => ?_) (fun hc => ?_)
  · replace hg := (if_pos hc).symm.trans hg
    refine rf_seg C [(.iload 5, 2)] (pc' := 107) (S' := ([(0, .ref 206), (1, .int a1), (2, .int a2), (3, .int a3), (4, .int a4), (5, .int a5), (6, .int a6)], [.int a5, .int (m.1 302 (Int32.toNatClampNeg a4)), .int a3], rf_MM w m)) (by decide +kernel) rfl trivial ?_
    refine rf_few [0, 1, 2, 4, 5, 6] rfl ?_
    exact s_X14_pull_107 C hE hr22 a1 a2 a4 a5 a6 a3 (m.1 302 (Int32.toNatClampNeg a4)) a5 m hg
  · replace hg := (if_neg hc).symm.trans hg
    refine rf_seg C [(.iload 6, 2)] (pc' := 102) (S' := ([(0, .ref 206), (1, .int a1), (2, .int a2), (3, .int a3), (4, .int a4), (5, .int a5), (6, .int a6)], [.int a6, .int (m.1 302 (Int32.toNatClampNeg a4)), .int a3], rf_MM w m)) (by decide +kernel) rfl trivial ?_
    refine rf_goto C 5 107 (by decide +kernel) ?_
    refine rf_few [0, 1, 2, 4, 5, 6] rfl ?_
    exact s_X14_pull_107 C hE hr22 a1 a2 a4 a5 a6 a3 (m.1 302 (Int32.toNatClampNeg a4)) a6 m hg
theorem s_X14_pull_22_b {w : rf_w} {K : rf_K} {r : Int32 × rf_m} (C : rf_Ctx 14 cX14_pull 7 2 (rf_sh w) K) (hE : rf_End (some .int) K (rf_sh w) 0 0 (some (.int r.1)) (rf_MM w r.2)) {rec22 : Int32 → Int32 → Int32 → Int32 → rf_m → Option (Int32 × rf_m)} (hr22 : ∀ (a1 : Int32) (a2 : Int32) (a3 : Int32) (a4 : Int32) (m : rf_m), rec22 a1 a2 a3 a4 m = some r → rf_V 7 (rf_sh w) K 0 0 22 ([(0, .ref 206), (1, .int a1), (2, .int a2), (3, .int a3), (4, .int a4)], [], rf_MM w m)) (a1 : Int32) (a2 : Int32) (a3 : Int32) (a4 : Int32) (m : rf_m) (hg : g_X14_pull_22_b w rec22 a1 a2 a3 a4 m = some r) : rf_V 7 (rf_sh w) K 0 0 22 ([(0, .ref 206), (1, .int a1), (2, .int a2), (3, .int a3), (4, .int a4)], [], rf_MM w m) := by
  unfold g_X14_pull_22_b at hg
  refine rf_seg C [(.iload 4, 2), (.aload 0, 1), (.invokeinterface 14 137, 3)] (pc' := 28) (S' := ([(0, .ref 206), (1, .int a1), (2, .int a2), (3, .int a3), (4, .int a4)], [.int (m.1 206 137), .int a4], rf_MM w m)) (by decide +kernel) rfl trivial ?_
  refine rf_icmp_ge C 100 128 (by decide +kernel) (fun hc => ?_) (fun hc => ?_)
  · replace hg := (if_pos hc).symm.trans hg
    refine rf_seg C [(.iload 3, 1)] (pc' := 129) (S' := ([(0, .ref 206), (1, .int a1), (2, .int a2), (3, .int a3), (4, .int a4)], [.int a3], rf_MM w m)) (by decide +kernel) rfl trivial ?_
    obtain rfl := Option.some.inj hg
    exact rf_iret C hE (by decide +kernel)
  · replace hg := (if_neg hc).symm.trans hg
    obtain ⟨q0, hg⟩ := rf_g_some hg
    obtain ⟨q1, hg⟩ := rf_g_some hg
    refine rf_seg C [(.aload 0, 1), (.invokeinterface 14 144, 3), (.iload 4, 2), (.iaload, 1), (.iconst 32, 2), (.irem, 1), (.aload 0, 1), (.invokeinterface 14 9, 3), (.iload 1, 1), (.iaload, 1), (.iconst 32, 2), (.irem, 1), (.isub, 1)] (pc' := 51) (S' := ([(0, .ref 206), (1, .int a1), (2, .int a2), (3, .int a3), (4, .int a4)], [.int (((m.1 301 (Int32.toNatClampNeg a4)) - (m.1 301 (Int32.toNatClampNeg a4)) / 32 * 32) - ((m.1 209 (Int32.toNatClampNeg a1)) - (m.1 209 (Int32.toNatClampNeg a1)) / 32 * 32))], rf_MM w m)) (by decide +kernel) rfl (by exact ⟨(rf_in_of q0), (rf_nz_of (by decide)), (rf_in_of q1), (rf_nz_of (by decide))⟩) ?_
    obtain ⟨x2, hx2, hg⟩ := rf_vi_some hg
    refine rf_vi_top hx2 ?_
    obtain ⟨q3, hg⟩ := rf_g_some hg
    obtain ⟨q4, hg⟩ := rf_g_some hg
    refine rf_seg C [(.istore 5, 2), (.aload 0, 1), (.invokeinterface 14 144, 3), (.iload 4, 2), (.iaload, 1), (.iconst 32, 2), (.idiv, 1), (.aload 0, 1), (.invokeinterface 14 9, 3), (.iload 1, 1), (.iaload, 1), (.iconst 32, 2), (.idiv, 1), (.isub, 1)] (pc' := 73) (S' := ([(5, .int x2), (0, .ref 206), (1, .int a1), (2, .int a2), (3, .int a3), (4, .int a4)], [.int (((m.1 301 (Int32.toNatClampNeg a4)) / 32) - ((m.1 209 (Int32.toNatClampNeg a1)) / 32))], rf_MM w m)) (by decide +kernel) rfl (by exact ⟨(rf_in_of q3), (rf_nz_of (by decide)), (rf_in_of q4), (rf_nz_of (by decide))⟩) ?_
    obtain ⟨x5, hx5, hg⟩ := rf_vi_some hg
    refine rf_vi_top hx5 ?_
    refine rf_seg C [(.istore 6, 2), (.iload 5, 2)] (pc' := 77) (S' := ([(6, .int x5), (5, .int x2), (0, .ref 206), (1, .int a1), (2, .int a2), (3, .int a3), (4, .int a4)], [.int x2], rf_MM w m)) (by decide +kernel) rfl trivial ?_
    refine rf_if_ne C 11 88 (by decide +kernel) (fun hc => ?_) (fun hc => ?_)
    · replace hg := (if_neg hc).symm.trans hg
      refine rf_few [2, 3, 4, 5, 6, 1, 0] rfl ?_
      exact s_X14_pull_88 C hE hr22 a1 a2 a3 a4 x2 x5 m hg
    · replace hg := (if_pos hc).symm.trans hg
      refine rf_seg C [(.iload 6, 2)] (pc' := 82) (S' := ([(6, .int x5), (5, .int x2), (0, .ref 206), (1, .int a1), (2, .int a2), (3, .int a3), (4, .int a4)], [.int x5], rf_MM w m)) (by decide +kernel) rfl trivial ?_
      refine rf_if_ne C 6 88 (by decide +kernel) (fun hc => ?_) (fun hc => ?_)
      · replace hg := (if_neg hc).symm.trans hg
        refine rf_few [2, 3, 4, 5, 6, 1, 0] rfl ?_
        exact s_X14_pull_88 C hE hr22 a1 a2 a3 a4 x2 x5 m hg
      · replace hg := (if_pos hc).symm.trans hg
        refine rf_goto C 37 122 (by decide +kernel) ?_
        refine rf_few [2, 3, 4, 5, 6] rfl ?_
        exact s_X14_pull_122 C hE hr22 a1 a2 a3 a4 m hg
theorem s_X14_pull_22 {w : rf_w} {K : rf_K} {r : Int32 × rf_m} (C : rf_Ctx 14 cX14_pull 7 2 (rf_sh w) K) (hE : rf_End (some .int) K (rf_sh w) 0 0 (some (.int r.1)) (rf_MM w r.2)) (n : Nat) : ∀ (a1 : Int32) (a2 : Int32) (a3 : Int32) (a4 : Int32) (m : rf_m), g_X14_pull_22 w n a1 a2 a3 a4 m = some r → rf_V 7 (rf_sh w) K 0 0 22 ([(0, .ref 206), (1, .int a1), (2, .int a2), (3, .int a3), (4, .int a4)], [], rf_MM w m) := by
  induction n with
  | zero => intro a1 a2 a3 a4 m hg; cases hg
  | succ n ih => intro a1 a2 a3 a4 m hg; exact s_X14_pull_22_b C hE ih a1 a2 a3 a4 m hg
theorem c_X14_pull {w : rf_w} {m : rf_m} {a1 : Int32} {a2 : Int32} {r : Int32 × rf_m} (hg : g_X14_pull w m a1 a2 = some r) : rf_Con j_X14_pull 2 (rf_sh w) [.ref 206, .int a1, .int a2] (rf_MM w m) (some (.int r.1)) (rf_MM w r.2) := by
  refine rf_con j_X14_pull 2 ⟨by decide +kernel, rfl, Nat.le_of_ble_eq_true rfl⟩ (fun K C hE => ?_)
  unfold g_X14_pull at hg
  show rf_V 7 (rf_sh w) K 0 0 0 ([(0, .ref 206), (1, .int a1), (2, .int a2)], [], rf_MM w m)
  refine rf_seg C [(.aload 0, 1), (.iconst 0, 1), (.multianewarray 14 0, 3), (.aload 0, 1), (.iload 1, 1)] (pc' := 7) (S' := ([(0, .ref 206), (1, .int a1), (2, .int a2)], [.int a1, .ref 206], rf_MM w (rf_i m 206 0 0))) (by decide +kernel) rfl trivial ?_
  obtain ⟨y0, m0, hc0, hg⟩ := rf_b_some hg
  refine rf_callv C rf_fit0 j_X14_isMark (ci := 14) (As := [.int a1]) (rest := []) mw_X14_isMark (c_X14_isMark hc0) (by decide) rfl (by decide) lk_14_360 rfl rfl (Nat.le_of_ble_eq_true rfl) (by decide +kernel) ?_
  show rf_V 7 (rf_sh w) K 0 0 10 ([(0, .ref 206), (1, .int a1), (2, .int a2)], [.int y0], rf_MM w m0)
  refine rf_if_ne C 7 17 (by decide +kernel) (fun hc => ?_) (fun hc => ?_)
  · replace hg := (if_neg hc).symm.trans hg
    refine rf_seg C [(.iconst 0, 1), (.istore 3, 1), (.iconst 0, 1), (.istore 4, 2)] (pc' := 22) (S' := ([(4, .int 0), (3, .int 0), (0, .ref 206), (1, .int a1), (2, .int a2)], [], rf_MM w m0)) (by decide +kernel) rfl trivial ?_
    refine rf_few [2, 3, 4, 1, 0] rfl ?_
    exact s_X14_pull_22 C hE rf_fuel a1 a2 0 0 m0 hg
  · replace hg := (if_pos hc).symm.trans hg
    refine rf_seg C [(.iconst (-2147483648), 3)] (pc' := 16) (S' := ([(0, .ref 206), (1, .int a1), (2, .int a2)], [.int ((-2147483648))], rf_MM w m0)) (by decide +kernel) rfl trivial ?_
    obtain rfl := Option.some.inj hg
    exact rf_iret C hE (by decide +kernel)
-- X14_arc
abbrev j_X14_arc : rf_J := (14, yX14_arc, cX14_arc, 3, (some .int))
theorem mw_X14_arc : rf_mv j_X14_arc (rf_R 14) 2 := ⟨⟨rf_mem 95 (by decide +kernel), rf_mem 95 (by decide +kernel), rf_mem 0 (by decide +kernel), rf_mem 96 (by decide +kernel)⟩, by decide +kernel, by decide⟩
def g_X14_arc (w : rf_w) (m : rf_m) (a1 : Int32) (a2 : Int32) : Option (Int32 × rf_m) := rf_b (g_X14_in w (rf_i m 206 0 0) a1 0 90) fun y0 m0 => (if y0 = 0 then rf_b (g_X14_refused w m0 2) fun y1 m1 => some (y1, m1) else rf_b (g_X14_in w m0 a2 1 1000000) fun y2 m2 => (if y2 = 0 then rf_b (g_X14_refused w m2 2) fun y7 m7 => some (y7, m7) else (if (m2.1 206 138) = 30 then rf_b (g_X14_refused w m2 3) fun y6 m6 => some (y6, m6) else rf_g (rf_in (m2.1 206 138) 30) (rf_g (rf_in ((rf_i m2 303 (Int32.toNatClampNeg (m2.1 206 138)) a1).1 206 138) 30) (rf_b (g_X14_done w (rf_i (rf_i (rf_i m2 303 (Int32.toNatClampNeg (m2.1 206 138)) a1) 304 (Int32.toNatClampNeg ((rf_i m2 303 (Int32.toNatClampNeg (m2.1 206 138)) a1).1 206 138)) a2) 206 138 (((rf_i (rf_i m2 303 (Int32.toNatClampNeg (m2.1 206 138)) a1) 304 (Int32.toNatClampNeg ((rf_i m2 303 (Int32.toNatClampNeg (m2.1 206 138)) a1).1 206 138)) a2).1 206 138) + 1)) (((rf_i (rf_i (rf_i m2 303 (Int32.toNatClampNeg (m2.1 206 138)) a1) 304 (Int32.toNatClampNeg ((rf_i m2 303 (Int32.toNatClampNeg (m2.1 206 138)) a1).1 206 138)) a2) 206 138 (((rf_i (rf_i m2 303 (Int32.toNatClampNeg (m2.1 206 138)) a1) 304 (Int32.toNatClampNeg ((rf_i m2 303 (Int32.toNatClampNeg (m2.1 206 138)) a1).1 206 138)) a2).1 206 138) + 1)).1 206 138) - 1)) fun y5 m5 => some (y5, m5))))))
theorem c_X14_arc {w : rf_w} {m : rf_m} {a1 : Int32} {a2 : Int32} {r : Int32 × rf_m} (hg : g_X14_arc w m a1 a2 = some r) : rf_Con j_X14_arc 2 (rf_sh w) [.ref 206, .int a1, .int a2] (rf_MM w m) (some (.int r.1)) (rf_MM w r.2) := by
  refine rf_con j_X14_arc 2 ⟨by decide +kernel, rfl, Nat.le_of_ble_eq_true rfl⟩ (fun K C hE => ?_)
  unfold g_X14_arc at hg
  show rf_V 3 (rf_sh w) K 0 0 0 ([(0, .ref 206), (1, .int a1), (2, .int a2)], [], rf_MM w m)
  refine rf_seg C [(.aload 0, 1), (.iconst 0, 1), (.multianewarray 14 0, 3), (.iload 1, 1), (.iconst 0, 1), (.iconst 90, 2)] (pc' := 9) (S' := ([(0, .ref 206), (1, .int a1), (2, .int a2)], [.int 90, .int 0, .int a1], rf_MM w (rf_i m 206 0 0))) (by decide +kernel) rfl trivial ?_
  obtain ⟨y0, m0, hc0, hg⟩ := rf_b_some hg
  refine rf_calls C rf_fit0 j_X14_in (As := [.int a1, .int 0, .int 90]) (rest := []) mw_X14_in (c_X14_in hc0) (by decide) lk_14_345 rfl rfl (Nat.le_of_ble_eq_true rfl) (by decide +kernel) ?_
  show rf_V 3 (rf_sh w) K 0 0 12 ([(0, .ref 206), (1, .int a1), (2, .int a2)], [.int y0], rf_MM w m0)
  refine rf_if_eq C 14 26 (by decide +kernel) (fun hc => ?_) (fun hc => ?_)
  · replace hg := (if_pos hc).symm.trans hg
    refine rf_seg C [(.aload 0, 1), (.iconst 2, 1)] (pc' := 28) (S' := ([(0, .ref 206), (1, .int a1), (2, .int a2)], [.int 2, .ref 206], rf_MM w m0)) (by decide +kernel) rfl trivial ?_
    obtain ⟨y1, m1, hc1, hg⟩ := rf_b_some hg
    refine rf_callv C rf_fit0 j_X14_refused (ci := 14) (As := [.int 2]) (rest := []) mw_X14_refused (c_X14_refused hc1) (by decide) rfl (by decide) lk_14_353 rfl rfl (Nat.le_of_ble_eq_true rfl) (by decide +kernel) ?_
    show rf_V 3 (rf_sh w) K 0 0 31 ([(0, .ref 206), (1, .int a1), (2, .int a2)], [.int y1], rf_MM w m1)
    obtain rfl := Option.some.inj hg
    exact rf_iret C hE (by decide +kernel)
  · replace hg := (if_neg hc).symm.trans hg
    refine rf_seg C [(.iload 2, 1), (.iconst 1, 1), (.iconst 1000000, 3)] (pc' := 20) (S' := ([(0, .ref 206), (1, .int a1), (2, .int a2)], [.int 1000000, .int 1, .int a2], rf_MM w m0)) (by decide +kernel) rfl trivial ?_
    obtain ⟨y2, m2, hc2, hg⟩ := rf_b_some hg
    refine rf_calls C rf_fit0 j_X14_in (As := [.int a2, .int 1, .int 1000000]) (rest := []) mw_X14_in (c_X14_in hc2) (by decide) lk_14_345 rfl rfl (Nat.le_of_ble_eq_true rfl) (by decide +kernel) ?_
    show rf_V 3 (rf_sh w) K 0 0 23 ([(0, .ref 206), (1, .int a1), (2, .int a2)], [.int y2], rf_MM w m2)
    refine rf_if_ne C 9 32 (by decide +kernel) (fun hc => ?_) (fun hc => ?_)
    · replace hg := (if_neg hc).symm.trans hg
      refine rf_seg C [(.aload 0, 1), (.invokeinterface 14 138, 3), (.iconst 30, 2)] (pc' := 38) (S' := ([(0, .ref 206), (1, .int a1), (2, .int a2)], [.int 30, .int (m2.1 206 138)], rf_MM w m2)) (by decide +kernel) rfl trivial ?_
      refine rf_icmp_ne C 9 47 (by decide +kernel) (fun hc => ?_) (fun hc => ?_)
      · replace hg := (if_neg hc).symm.trans hg
        obtain ⟨q3, hg⟩ := rf_g_some hg
        obtain ⟨q4, hg⟩ := rf_g_some hg
        refine rf_seg C [(.aload 0, 1), (.invokeinterface 14 146, 3), (.aload 0, 1), (.invokeinterface 14 138, 3), (.iload 1, 1), (.iastore, 1), (.aload 0, 1), (.invokeinterface 14 147, 3), (.aload 0, 1), (.invokeinterface 14 138, 3), (.iload 2, 1), (.iastore, 1), (.aload 0, 1), (.dup, 1), (.invokeinterface 14 138, 3), (.iconst 1, 1), (.iadd, 1), (.multianewarray 14 138, 3), (.aload 0, 1), (.aload 0, 1), (.invokeinterface 14 138, 3), (.iconst 1, 1), (.isub, 1)] (pc' := 84) (S' := ([(0, .ref 206), (1, .int a1), (2, .int a2)], [.int (((rf_i (rf_i (rf_i m2 303 (Int32.toNatClampNeg (m2.1 206 138)) a1) 304 (Int32.toNatClampNeg ((rf_i m2 303 (Int32.toNatClampNeg (m2.1 206 138)) a1).1 206 138)) a2) 206 138 (((rf_i (rf_i m2 303 (Int32.toNatClampNeg (m2.1 206 138)) a1) 304 (Int32.toNatClampNeg ((rf_i m2 303 (Int32.toNatClampNeg (m2.1 206 138)) a1).1 206 138)) a2).1 206 138) + 1)).1 206 138) - 1), .ref 206], rf_MM w (rf_i (rf_i (rf_i m2 303 (Int32.toNatClampNeg (m2.1 206 138)) a1) 304 (Int32.toNatClampNeg ((rf_i m2 303 (Int32.toNatClampNeg (m2.1 206 138)) a1).1 206 138)) a2) 206 138 (((rf_i (rf_i m2 303 (Int32.toNatClampNeg (m2.1 206 138)) a1) 304 (Int32.toNatClampNeg ((rf_i m2 303 (Int32.toNatClampNeg (m2.1 206 138)) a1).1 206 138)) a2).1 206 138) + 1)))) (by decide +kernel) rfl (by exact ⟨(rf_in_of q3), (rf_in_of q4)⟩) ?_
        obtain ⟨y5, m5, hc5, hg⟩ := rf_b_some hg
        refine rf_callv C rf_fit0 j_X14_done (ci := 14) (As := [.int (((rf_i (rf_i (rf_i m2 303 (Int32.toNatClampNeg (m2.1 206 138)) a1) 304 (Int32.toNatClampNeg ((rf_i m2 303 (Int32.toNatClampNeg (m2.1 206 138)) a1).1 206 138)) a2) 206 138 (((rf_i (rf_i m2 303 (Int32.toNatClampNeg (m2.1 206 138)) a1) 304 (Int32.toNatClampNeg ((rf_i m2 303 (Int32.toNatClampNeg (m2.1 206 138)) a1).1 206 138)) a2).1 206 138) + 1)).1 206 138) - 1)]) (rest := []) mw_X14_done (c_X14_done hc5) (by decide) rfl (by decide) lk_14_357 rfl rfl (Nat.le_of_ble_eq_true rfl) (by decide +kernel) ?_
        show rf_V 3 (rf_sh w) K 0 0 87 ([(0, .ref 206), (1, .int a1), (2, .int a2)], [.int y5], rf_MM w m5)
        obtain rfl := Option.some.inj hg
        exact rf_iret C hE (by decide +kernel)
      · replace hg := (if_pos hc).symm.trans hg
        refine rf_seg C [(.aload 0, 1), (.iconst 3, 1)] (pc' := 43) (S' := ([(0, .ref 206), (1, .int a1), (2, .int a2)], [.int 3, .ref 206], rf_MM w m2)) (by decide +kernel) rfl trivial ?_
        obtain ⟨y6, m6, hc6, hg⟩ := rf_b_some hg
        refine rf_callv C rf_fit0 j_X14_refused (ci := 14) (As := [.int 3]) (rest := []) mw_X14_refused (c_X14_refused hc6) (by decide) rfl (by decide) lk_14_353 rfl rfl (Nat.le_of_ble_eq_true rfl) (by decide +kernel) ?_
        show rf_V 3 (rf_sh w) K 0 0 46 ([(0, .ref 206), (1, .int a1), (2, .int a2)], [.int y6], rf_MM w m6)
        obtain rfl := Option.some.inj hg
        exact rf_iret C hE (by decide +kernel)
    · replace hg := (if_pos hc).symm.trans hg
      refine rf_seg C [(.aload 0, 1), (.iconst 2, 1)] (pc' := 28) (S' := ([(0, .ref 206), (1, .int a1), (2, .int a2)], [.int 2, .ref 206], rf_MM w m2)) (by decide +kernel) rfl trivial ?_
      obtain ⟨y7, m7, hc7, hg⟩ := rf_b_some hg
      refine rf_callv C rf_fit0 j_X14_refused (ci := 14) (As := [.int 2]) (rest := []) mw_X14_refused (c_X14_refused hc7) (by decide) rfl (by decide) lk_14_353 rfl rfl (Nat.le_of_ble_eq_true rfl) (by decide +kernel) ?_
      show rf_V 3 (rf_sh w) K 0 0 31 ([(0, .ref 206), (1, .int a1), (2, .int a2)], [.int y7], rf_MM w m7)
      obtain rfl := Option.some.inj hg
      exact rf_iret C hE (by decide +kernel)
-- X14_figure
abbrev j_X14_figure : rf_J := (14, yX14_figure, cX14_figure, 12, (some .long))
theorem mw_X14_figure : rf_mv j_X14_figure (rf_R 14) 1 := ⟨⟨rf_mem 96 (by decide +kernel), rf_mem 96 (by decide +kernel), rf_mem 0 (by decide +kernel), rf_mem 96 (by decide +kernel)⟩, by decide +kernel, by decide⟩
def g_X14_figure_19_b (w : rf_w) (rec19 : Int32 → Int64 → Int64 → Int64 → Int64 → Int32 → rf_m → Option (Int64 × rf_m)) (a1 : Int32) (a2 : Int64) (a4 : Int64) (a6 : Int64) (a8 : Int64) (a10 : Int32) (m : rf_m) : Option (Int64 × rf_m) := (if (m.1 206 138) ≤ a10 then rf_vl (((Int32.toInt64 (m.1 206 138)) * a6) - (a2 * a2)) fun x0 => (if (lg_cmp x0 0) = 0 then some ((-9223372036854775808), m) else (if a1 = 0 then rf_b (g_X14_downLong w m (1000 * (((Int32.toInt64 (m.1 206 138)) * a8) - (a2 * a4))) x0) fun y1 m1 => some (y1, m1) else rf_b (g_X14_downLong w m (1000 * ((a4 * a6) - (a2 * a8))) x0) fun y2 m2 => some (y2, m2))) else rf_g (rf_in a10 30) (rf_vl (a2 + (Int32.toInt64 (m.1 303 (Int32.toNatClampNeg a10)))) fun x4 => rf_g (rf_in a10 30) (rf_vl (a4 + (Int32.toInt64 (m.1 304 (Int32.toNatClampNeg a10)))) fun x6 => rf_g (rf_in a10 30) (rf_g (rf_in a10 30) (rf_vl (a6 + ((Int32.toInt64 (m.1 303 (Int32.toNatClampNeg a10))) * (Int32.toInt64 (m.1 303 (Int32.toNatClampNeg a10))))) fun x9 => rf_g (rf_in a10 30) (rf_g (rf_in a10 30) (rf_vl (a8 + ((Int32.toInt64 (m.1 303 (Int32.toNatClampNeg a10))) * (Int32.toInt64 (m.1 304 (Int32.toNatClampNeg a10))))) fun x12 => rec19 a1 x4 x6 x9 x12 (a10 + 1) m)))))))
def g_X14_figure_19 (w : rf_w) : Nat → Int32 → Int64 → Int64 → Int64 → Int64 → Int32 → rf_m → Option (Int64 × rf_m)
  | 0, _, _, _, _, _, _, _ => none
  | n + 1, a1, a2, a4, a6, a8, a10, m => g_X14_figure_19_b w (g_X14_figure_19 w n) a1 a2 a4 a6 a8 a10 m
def g_X14_figure (w : rf_w) (m : rf_m) (a1 : Int32) : Option (Int64 × rf_m) := g_X14_figure_19 w rf_fuel a1 0 0 0 0 0 (rf_i m 206 0 0)
theorem s_X14_figure_19_b {w : rf_w} {K : rf_K} {r : Int64 × rf_m} (C : rf_Ctx 14 cX14_figure 12 2 (rf_sh w) K) (hE : rf_End (some .long) K (rf_sh w) 0 0 (some (.long r.1)) (rf_MM w r.2)) {rec19 : Int32 → Int64 → Int64 → Int64 → Int64 → Int32 → rf_m → Option (Int64 × rf_m)} (hr19 : ∀ (a1 : Int32) (a2 : Int64) (a4 : Int64) (a6 : Int64) (a8 : Int64) (a10 : Int32) (m : rf_m), rec19 a1 a2 a4 a6 a8 a10 m = some r → rf_V 12 (rf_sh w) K 0 0 19 ([(0, .ref 206), (1, .int a1), (2, .long a2), (4, .long a4), (6, .long a6), (8, .long a8), (10, .int a10)], [], rf_MM w m)) (a1 : Int32) (a2 : Int64) (a4 : Int64) (a6 : Int64) (a8 : Int64) (a10 : Int32) (m : rf_m) (hg : g_X14_figure_19_b w rec19 a1 a2 a4 a6 a8 a10 m = some r) : rf_V 12 (rf_sh w) K 0 0 19 ([(0, .ref 206), (1, .int a1), (2, .long a2), (4, .long a4), (6, .long a6), (8, .long a8), (10, .int a10)], [], rf_MM w m) := by
  unfold g_X14_figure_19_b at hg
  refine rf_seg C [(.iload 10, 2), (.aload 0, 1), (.invokeinterface 14 138, 3)] (pc' := 25) (S' := ([(0, .ref 206), (1, .int a1), (2, .long a2), (4, .long a4), (6, .long a6), (8, .long a8), (10, .int a10)], [.int (m.1 206 138), .int a10], rf_MM w m)) (by decide +kernel) rfl trivial ?_
  refine rf_icmp_ge C 77 102 (by decide +kernel) (fun hc => ?_) (fun hc => ?_)
  · replace hg := (if_pos hc).symm.trans hg
    refine rf_seg C [(.aload 0, 1), (.invokeinterface 14 138, 3), (.i2l, 1), (.lload 6, 2), (.lmul, 1), (.lload 2, 1), (.lload 2, 1), (.lmul, 1), (.lsub, 1)] (pc' := 114) (S' := ([(0, .ref 206), (1, .int a1), (2, .long a2), (4, .long a4), (6, .long a6), (8, .long a8), (10, .int a10)], [.long (((Int32.toInt64 (m.1 206 138)) * a6) - (a2 * a2))], rf_MM w m)) (by decide +kernel) rfl trivial ?_
    obtain ⟨x0, hx0, hg⟩ := rf_vl_some hg
    refine rf_vl_top hx0 ?_
    refine rf_seg C [(.lstore 10, 2), (.lload 10, 2), (.goto_w 0, 1), (.lcmp, 1)] (pc' := 120) (S' := ([(10, .long x0), (0, .ref 206), (1, .int a1), (2, .long a2), (4, .long a4), (6, .long a6), (8, .long a8)], [.int (lg_cmp x0 0)], rf_MM w m)) (by decide +kernel) rfl trivial ?_
    refine rf_if_ne C 7 127 (by decide +kernel) (fun hc => ?_) (fun hc => ?_)
    · replace hg := (if_neg hc).symm.trans hg
      refine rf_seg C [(.goto_w 1000, 3), (.iload 1, 1)] (pc' := 131) (S' := ([(10, .long x0), (0, .ref 206), (1, .int a1), (2, .long a2), (4, .long a4), (6, .long a6), (8, .long a8)], [.int a1, .long 1000], rf_MM w m)) (by decide +kernel) rfl trivial ?_
      refine rf_if_eq C 16 147 (by decide +kernel) (fun hc => ?_) (fun hc => ?_)
      · replace hg := (if_pos hc).symm.trans hg
        refine rf_seg C [(.aload 0, 1), (.invokeinterface 14 138, 3), (.i2l, 1), (.lload 8, 2), (.lmul, 1), (.lload 2, 1), (.lload 4, 2), (.lmul, 1), (.lsub, 1), (.lmul, 1), (.lload 10, 2)] (pc' := 163) (S' := ([(10, .long x0), (0, .ref 206), (1, .int a1), (2, .long a2), (4, .long a4), (6, .long a6), (8, .long a8)], [.long x0, .long (1000 * (((Int32.toInt64 (m.1 206 138)) * a8) - (a2 * a4)))], rf_MM w m)) (by decide +kernel) rfl trivial ?_
        obtain ⟨y1, m1, hc1, hg⟩ := rf_b_some hg
        refine rf_calls C rf_fit0 j_X14_downLong (As := [.long (1000 * (((Int32.toInt64 (m.1 206 138)) * a8) - (a2 * a4))), .long x0]) (rest := []) mw_X14_downLong (c_X14_downLong hc1) (by decide) lk_14_918 rfl rfl (Nat.le_of_ble_eq_true rfl) (by decide +kernel) ?_
        show rf_V 12 (rf_sh w) K 0 0 166 ([(10, .long x0), (0, .ref 206), (1, .int a1), (2, .long a2), (4, .long a4), (6, .long a6), (8, .long a8)], [.long y1], rf_MM w m1)
        obtain rfl := Option.some.inj hg
        exact rf_lret C hE (by decide +kernel)
      · replace hg := (if_neg hc).symm.trans hg
        refine rf_seg C [(.lload 4, 2), (.lload 6, 2), (.lmul, 1), (.lload 2, 1), (.lload 8, 2), (.lmul, 1), (.lsub, 1)] (pc' := 144) (S' := ([(10, .long x0), (0, .ref 206), (1, .int a1), (2, .long a2), (4, .long a4), (6, .long a6), (8, .long a8)], [.long ((a4 * a6) - (a2 * a8)), .long 1000], rf_MM w m)) (by decide +kernel) rfl trivial ?_
        refine rf_goto C 16 160 (by decide +kernel) ?_
        refine rf_seg C [(.lmul, 1), (.lload 10, 2)] (pc' := 163) (S' := ([(10, .long x0), (0, .ref 206), (1, .int a1), (2, .long a2), (4, .long a4), (6, .long a6), (8, .long a8)], [.long x0, .long (1000 * ((a4 * a6) - (a2 * a8)))], rf_MM w m)) (by decide +kernel) rfl trivial ?_
        obtain ⟨y2, m2, hc2, hg⟩ := rf_b_some hg
        refine rf_calls C rf_fit0 j_X14_downLong (As := [.long (1000 * ((a4 * a6) - (a2 * a8))), .long x0]) (rest := []) mw_X14_downLong (c_X14_downLong hc2) (by decide) lk_14_918 rfl rfl (Nat.le_of_ble_eq_true rfl) (by decide +kernel) ?_
        show rf_V 12 (rf_sh w) K 0 0 166 ([(10, .long x0), (0, .ref 206), (1, .int a1), (2, .long a2), (4, .long a4), (6, .long a6), (8, .long a8)], [.long y2], rf_MM w m2)
        obtain rfl := Option.some.inj hg
        exact rf_lret C hE (by decide +kernel)
    · replace hg := (if_pos hc).symm.trans hg
      refine rf_seg C [(.goto_w (-9223372036854775808), 3)] (pc' := 126) (S' := ([(10, .long x0), (0, .ref 206), (1, .int a1), (2, .long a2), (4, .long a4), (6, .long a6), (8, .long a8)], [.long ((-9223372036854775808))], rf_MM w m)) (by decide +kernel) rfl trivial ?_
      obtain rfl := Option.some.inj hg
      exact rf_lret C hE (by decide +kernel)
  · replace hg := (if_neg hc).symm.trans hg
    obtain ⟨q3, hg⟩ := rf_g_some hg
    refine rf_seg C [(.lload 2, 1), (.aload 0, 1), (.invokeinterface 14 146, 3), (.iload 10, 2), (.iaload, 1), (.i2l, 1), (.ladd, 1)] (pc' := 38) (S' := ([(0, .ref 206), (1, .int a1), (2, .long a2), (4, .long a4), (6, .long a6), (8, .long a8), (10, .int a10)], [.long (a2 + (Int32.toInt64 (m.1 303 (Int32.toNatClampNeg a10))))], rf_MM w m)) (by decide +kernel) rfl (rf_in_of q3) ?_
    obtain ⟨x4, hx4, hg⟩ := rf_vl_some hg
    refine rf_vl_top hx4 ?_
    obtain ⟨q5, hg⟩ := rf_g_some hg
    refine rf_seg C [(.lstore 2, 1), (.lload 4, 2), (.aload 0, 1), (.invokeinterface 14 147, 3), (.iload 10, 2), (.iaload, 1), (.i2l, 1), (.ladd, 1)] (pc' := 50) (S' := ([(2, .long x4), (0, .ref 206), (1, .int a1), (4, .long a4), (6, .long a6), (8, .long a8), (10, .int a10)], [.long (a4 + (Int32.toInt64 (m.1 304 (Int32.toNatClampNeg a10))))], rf_MM w m)) (by decide +kernel) rfl (rf_in_of q5) ?_
    obtain ⟨x6, hx6, hg⟩ := rf_vl_some hg
    refine rf_vl_top hx6 ?_
    obtain ⟨q7, hg⟩ := rf_g_some hg
    obtain ⟨q8, hg⟩ := rf_g_some hg
    refine rf_seg C [(.lstore 4, 2), (.lload 6, 2), (.aload 0, 1), (.invokeinterface 14 146, 3), (.iload 10, 2), (.iaload, 1), (.i2l, 1), (.aload 0, 1), (.invokeinterface 14 146, 3), (.iload 10, 2), (.iaload, 1), (.i2l, 1), (.lmul, 1), (.ladd, 1)] (pc' := 72) (S' := ([(4, .long x6), (2, .long x4), (0, .ref 206), (1, .int a1), (6, .long a6), (8, .long a8), (10, .int a10)], [.long (a6 + ((Int32.toInt64 (m.1 303 (Int32.toNatClampNeg a10))) * (Int32.toInt64 (m.1 303 (Int32.toNatClampNeg a10)))))], rf_MM w m)) (by decide +kernel) rfl (by exact ⟨(rf_in_of q7), (rf_in_of q8)⟩) ?_
    obtain ⟨x9, hx9, hg⟩ := rf_vl_some hg
    refine rf_vl_top hx9 ?_
    obtain ⟨q10, hg⟩ := rf_g_some hg
    obtain ⟨q11, hg⟩ := rf_g_some hg
    refine rf_seg C [(.lstore 6, 2), (.lload 8, 2), (.aload 0, 1), (.invokeinterface 14 146, 3), (.iload 10, 2), (.iaload, 1), (.i2l, 1), (.aload 0, 1), (.invokeinterface 14 147, 3), (.iload 10, 2), (.iaload, 1), (.i2l, 1), (.lmul, 1), (.ladd, 1)] (pc' := 94) (S' := ([(6, .long x9), (4, .long x6), (2, .long x4), (0, .ref 206), (1, .int a1), (8, .long a8), (10, .int a10)], [.long (a8 + ((Int32.toInt64 (m.1 303 (Int32.toNatClampNeg a10))) * (Int32.toInt64 (m.1 304 (Int32.toNatClampNeg a10)))))], rf_MM w m)) (by decide +kernel) rfl (by exact ⟨(rf_in_of q10), (rf_in_of q11)⟩) ?_
    obtain ⟨x12, hx12, hg⟩ := rf_vl_some hg
    refine rf_vl_top hx12 ?_
    refine rf_seg C [(.lstore 8, 2), (.iinc 10 1, 3)] (pc' := 99) (S' := ([(10, .int (a10 + 1)), (8, .long x12), (6, .long x9), (4, .long x6), (2, .long x4), (0, .ref 206), (1, .int a1)], [], rf_MM w m)) (by decide +kernel) rfl trivial ?_
    refine rf_goto C (-80) 19 (by decide +kernel) ?_
    refine rf_few [5, 6, 4, 3, 2, 1, 0] rfl ?_
    exact hr19 a1 x4 x6 x9 x12 (a10 + 1) m hg
theorem s_X14_figure_19 {w : rf_w} {K : rf_K} {r : Int64 × rf_m} (C : rf_Ctx 14 cX14_figure 12 2 (rf_sh w) K) (hE : rf_End (some .long) K (rf_sh w) 0 0 (some (.long r.1)) (rf_MM w r.2)) (n : Nat) : ∀ (a1 : Int32) (a2 : Int64) (a4 : Int64) (a6 : Int64) (a8 : Int64) (a10 : Int32) (m : rf_m), g_X14_figure_19 w n a1 a2 a4 a6 a8 a10 m = some r → rf_V 12 (rf_sh w) K 0 0 19 ([(0, .ref 206), (1, .int a1), (2, .long a2), (4, .long a4), (6, .long a6), (8, .long a8), (10, .int a10)], [], rf_MM w m) := by
  induction n with
  | zero => intro a1 a2 a4 a6 a8 a10 m hg; cases hg
  | succ n ih => intro a1 a2 a4 a6 a8 a10 m hg; exact s_X14_figure_19_b C hE ih a1 a2 a4 a6 a8 a10 m hg
theorem c_X14_figure {w : rf_w} {m : rf_m} {a1 : Int32} {r : Int64 × rf_m} (hg : g_X14_figure w m a1 = some r) : rf_Con j_X14_figure 2 (rf_sh w) [.ref 206, .int a1] (rf_MM w m) (some (.long r.1)) (rf_MM w r.2) := by
  refine rf_con j_X14_figure 2 ⟨by decide +kernel, rfl, Nat.le_of_ble_eq_true rfl⟩ (fun K C hE => ?_)
  unfold g_X14_figure at hg
  show rf_V 12 (rf_sh w) K 0 0 0 ([(0, .ref 206), (1, .int a1)], [], rf_MM w m)
  refine rf_seg C [(.aload 0, 1), (.iconst 0, 1), (.multianewarray 14 0, 3), (.goto_w 0, 1), (.lstore 2, 1), (.goto_w 0, 1), (.lstore 4, 2), (.goto_w 0, 1), (.lstore 6, 2), (.goto_w 0, 1), (.lstore 8, 2), (.iconst 0, 1), (.istore 10, 2)] (pc' := 19) (S' := ([(10, .int 0), (8, .long 0), (6, .long 0), (4, .long 0), (2, .long 0), (0, .ref 206), (1, .int a1)], [], rf_MM w (rf_i m 206 0 0))) (by decide +kernel) rfl trivial ?_
  refine rf_few [5, 6, 4, 3, 2, 1, 0] rfl ?_
  exact s_X14_figure_19 C hE rf_fuel a1 0 0 0 0 0 (rf_i m 206 0 0) hg
-- X14_pass
abbrev j_X14_pass : rf_J := (14, yX14_pass, cX14_pass, 2, (some .int))
theorem mw_X14_pass : rf_mv j_X14_pass (rf_R 14) 1 := ⟨⟨rf_mem 97 (by decide +kernel), rf_mem 97 (by decide +kernel), rf_mem 0 (by decide +kernel), rf_mem 97 (by decide +kernel)⟩, by decide +kernel, by decide⟩
def g_X14_pass (w : rf_w) (m : rf_m) (a1 : Int32) : Option (Int32 × rf_m) := rf_b (g_X14_in w (rf_i m 206 0 0) a1 1 1000) fun y0 m0 => (if y0 = 0 then rf_b (g_X14_refused w m0 2) fun y1 m1 => some (y1, m1) else (if ((m0.1 206 5) + a1) < 10000 then rf_b (g_X14_done w (rf_i m0 206 5 ((m0.1 206 5) + a1)) ((rf_i m0 206 5 ((m0.1 206 5) + a1)).1 206 5)) fun y2 m2 => some (y2, m2) else rf_b (g_X14_refused w m0 2) fun y3 m3 => some (y3, m3)))
theorem c_X14_pass {w : rf_w} {m : rf_m} {a1 : Int32} {r : Int32 × rf_m} (hg : g_X14_pass w m a1 = some r) : rf_Con j_X14_pass 2 (rf_sh w) [.ref 206, .int a1] (rf_MM w m) (some (.int r.1)) (rf_MM w r.2) := by
  refine rf_con j_X14_pass 2 ⟨by decide +kernel, rfl, Nat.le_of_ble_eq_true rfl⟩ (fun K C hE => ?_)
  unfold g_X14_pass at hg
  show rf_V 2 (rf_sh w) K 0 0 0 ([(0, .ref 206), (1, .int a1)], [], rf_MM w m)
  refine rf_seg C [(.aload 0, 1), (.iconst 0, 1), (.multianewarray 14 0, 3), (.iload 1, 1), (.iconst 1, 1), (.iconst 1000, 3)] (pc' := 10) (S' := ([(0, .ref 206), (1, .int a1)], [.int 1000, .int 1, .int a1], rf_MM w (rf_i m 206 0 0))) (by decide +kernel) rfl trivial ?_
  obtain ⟨y0, m0, hc0, hg⟩ := rf_b_some hg
  refine rf_calls C rf_fit0 j_X14_in (As := [.int a1, .int 1, .int 1000]) (rest := []) mw_X14_in (c_X14_in hc0) (by decide) lk_14_345 rfl rfl (Nat.le_of_ble_eq_true rfl) (by decide +kernel) ?_
  show rf_V 2 (rf_sh w) K 0 0 13 ([(0, .ref 206), (1, .int a1)], [.int y0], rf_MM w m0)
  refine rf_if_eq C 15 28 (by decide +kernel) (fun hc => ?_) (fun hc => ?_)
  · replace hg := (if_pos hc).symm.trans hg
    refine rf_seg C [(.aload 0, 1), (.iconst 2, 1)] (pc' := 30) (S' := ([(0, .ref 206), (1, .int a1)], [.int 2, .ref 206], rf_MM w m0)) (by decide +kernel) rfl trivial ?_
    obtain ⟨y1, m1, hc1, hg⟩ := rf_b_some hg
    refine rf_callv C rf_fit0 j_X14_refused (ci := 14) (As := [.int 2]) (rest := []) mw_X14_refused (c_X14_refused hc1) (by decide) rfl (by decide) lk_14_353 rfl rfl (Nat.le_of_ble_eq_true rfl) (by decide +kernel) ?_
    show rf_V 2 (rf_sh w) K 0 0 33 ([(0, .ref 206), (1, .int a1)], [.int y1], rf_MM w m1)
    obtain rfl := Option.some.inj hg
    exact rf_iret C hE (by decide +kernel)
  · replace hg := (if_neg hc).symm.trans hg
    refine rf_seg C [(.aload 0, 1), (.invokeinterface 14 5, 3), (.iload 1, 1), (.iadd, 1), (.iconst 10000, 3)] (pc' := 25) (S' := ([(0, .ref 206), (1, .int a1)], [.int 10000, .int ((m0.1 206 5) + a1)], rf_MM w m0)) (by decide +kernel) rfl trivial ?_
    refine rf_icmp_lt C 9 34 (by decide +kernel) (fun hc => ?_) (fun hc => ?_)
    · replace hg := (if_pos hc).symm.trans hg
      refine rf_seg C [(.aload 0, 1), (.dup, 1), (.invokeinterface 14 5, 3), (.iload 1, 1), (.iadd, 1), (.multianewarray 14 5, 3), (.aload 0, 1), (.aload 0, 1), (.invokeinterface 14 5, 3)] (pc' := 49) (S' := ([(0, .ref 206), (1, .int a1)], [.int ((rf_i m0 206 5 ((m0.1 206 5) + a1)).1 206 5), .ref 206], rf_MM w (rf_i m0 206 5 ((m0.1 206 5) + a1)))) (by decide +kernel) rfl trivial ?_
      obtain ⟨y2, m2, hc2, hg⟩ := rf_b_some hg
      refine rf_callv C rf_fit0 j_X14_done (ci := 14) (As := [.int ((rf_i m0 206 5 ((m0.1 206 5) + a1)).1 206 5)]) (rest := []) mw_X14_done (c_X14_done hc2) (by decide) rfl (by decide) lk_14_357 rfl rfl (Nat.le_of_ble_eq_true rfl) (by decide +kernel) ?_
      show rf_V 2 (rf_sh w) K 0 0 52 ([(0, .ref 206), (1, .int a1)], [.int y2], rf_MM w m2)
      obtain rfl := Option.some.inj hg
      exact rf_iret C hE (by decide +kernel)
    · replace hg := (if_neg hc).symm.trans hg
      refine rf_seg C [(.aload 0, 1), (.iconst 2, 1)] (pc' := 30) (S' := ([(0, .ref 206), (1, .int a1)], [.int 2, .ref 206], rf_MM w m0)) (by decide +kernel) rfl trivial ?_
      obtain ⟨y3, m3, hc3, hg⟩ := rf_b_some hg
      refine rf_callv C rf_fit0 j_X14_refused (ci := 14) (As := [.int 2]) (rest := []) mw_X14_refused (c_X14_refused hc3) (by decide) rfl (by decide) lk_14_353 rfl rfl (Nat.le_of_ble_eq_true rfl) (by decide +kernel) ?_
      show rf_V 2 (rf_sh w) K 0 0 33 ([(0, .ref 206), (1, .int a1)], [.int y3], rf_MM w m3)
      obtain rfl := Option.some.inj hg
      exact rf_iret C hE (by decide +kernel)
-- X14_count
abbrev j_X14_count : rf_J := (14, yX14_count, cX14_count, 4, (some .int))
theorem mw_X14_count : rf_mv j_X14_count (rf_R 14) 1 := ⟨⟨rf_mem 97 (by decide +kernel), rf_mem 97 (by decide +kernel), rf_mem 0 (by decide +kernel), rf_mem 97 (by decide +kernel)⟩, by decide +kernel, by decide⟩
def g_X14_count_167 (w : rf_w) (rec145 : Int32 → Int32 → rf_m → Option (Int32 × rf_m)) (a3 : Int32) (s0 : Int32) (s1 : Int32) (m : rf_m) : Option (Int32 × rf_m) := rec145 (s0 + s1) (a3 + 1) m
def g_X14_count_145_b (w : rf_w) (rec145 : Int32 → Int32 → rf_m → Option (Int32 × rf_m)) (a2 : Int32) (a3 : Int32) (m : rf_m) : Option (Int32 × rf_m) := (if (m.1 206 16) ≤ a3 then some (a2, m) else rf_b (g_X14_isAgain w m a3) fun y0 m0 => (if y0 = 0 then g_X14_count_167 w rec145 a3 a2 0 m0 else g_X14_count_167 w rec145 a3 a2 1 m0))
def g_X14_count_145 (w : rf_w) : Nat → Int32 → Int32 → rf_m → Option (Int32 × rf_m)
  | 0, _, _, _ => none
  | n + 1, a2, a3, m => g_X14_count_145_b w (g_X14_count_145 w n) a2 a3 m
def g_X14_count (w : rf_w) (m : rf_m) (a1 : Int32) : Option (Int32 × rf_m) := (if a1 = 0 then some ((rf_i m 206 0 0).1 206 4, rf_i m 206 0 0) else if a1 = 1 then some ((rf_i m 206 0 0).1 206 16, rf_i m 206 0 0) else if a1 = 2 then some ((rf_i m 206 0 0).1 206 17, rf_i m 206 0 0) else if a1 = 3 then some ((rf_i m 206 0 0).1 206 39, rf_i m 206 0 0) else if a1 = 4 then some ((rf_i m 206 0 0).1 206 55, rf_i m 206 0 0) else if a1 = 5 then some ((rf_i m 206 0 0).1 206 64, rf_i m 206 0 0) else if a1 = 6 then some ((rf_i m 206 0 0).1 206 65, rf_i m 206 0 0) else if a1 = 7 then some ((rf_i m 206 0 0).1 206 15, rf_i m 206 0 0) else if a1 = 8 then some ((rf_i m 206 0 0).1 206 126, rf_i m 206 0 0) else if a1 = 9 then some ((rf_i m 206 0 0).1 206 136, rf_i m 206 0 0) else if a1 = 10 then some ((rf_i m 206 0 0).1 206 116, rf_i m 206 0 0) else if a1 = 11 then some ((rf_i m 206 0 0).1 206 5, rf_i m 206 0 0) else if a1 = 12 then some ((rf_i m 206 0 0).1 206 44, rf_i m 206 0 0) else if a1 = 13 then g_X14_count_145 w rf_fuel 0 0 (rf_i m 206 0 0) else some ((-1), rf_i m 206 0 0))
theorem s_X14_count_167 {w : rf_w} {K : rf_K} {r : Int32 × rf_m} (C : rf_Ctx 14 cX14_count 4 9 (rf_sh w) K) (hE : rf_End (some .int) K (rf_sh w) 0 0 (some (.int r.1)) (rf_MM w r.2)) {rec145 : Int32 → Int32 → rf_m → Option (Int32 × rf_m)} (hr145 : ∀ (a2 : Int32) (a3 : Int32) (m : rf_m), rec145 a2 a3 m = some r → rf_V 4 (rf_sh w) K 0 0 145 ([(0, .ref 206), (2, .int a2), (3, .int a3)], [], rf_MM w m)) (a3 : Int32) (s0 : Int32) (s1 : Int32) (m : rf_m) (hg : g_X14_count_167 w rec145 a3 s0 s1 m = some r) : rf_V 4 (rf_sh w) K 0 0 167 ([(0, .ref 206), (3, .int a3)], [.int s1, .int s0], rf_MM w m) := by
  unfold g_X14_count_167 at hg
  refine rf_seg C [(.iadd, 1), (.istore 2, 1), (.iinc 3 1, 3)] (pc' := 172) (S' := ([(3, .int (a3 + 1)), (2, .int (s0 + s1)), (0, .ref 206)], [], rf_MM w m)) (by decide +kernel) rfl trivial ?_
  refine rf_goto C (-27) 145 (by decide +kernel) ?_
  refine rf_few [2, 1, 0] rfl ?_
  exact hr145 (s0 + s1) (a3 + 1) m hg
theorem s_X14_count_145_b {w : rf_w} {K : rf_K} {r : Int32 × rf_m} (C : rf_Ctx 14 cX14_count 4 9 (rf_sh w) K) (hE : rf_End (some .int) K (rf_sh w) 0 0 (some (.int r.1)) (rf_MM w r.2)) {rec145 : Int32 → Int32 → rf_m → Option (Int32 × rf_m)} (hr145 : ∀ (a2 : Int32) (a3 : Int32) (m : rf_m), rec145 a2 a3 m = some r → rf_V 4 (rf_sh w) K 0 0 145 ([(0, .ref 206), (2, .int a2), (3, .int a3)], [], rf_MM w m)) (a2 : Int32) (a3 : Int32) (m : rf_m) (hg : g_X14_count_145_b w rec145 a2 a3 m = some r) : rf_V 4 (rf_sh w) K 0 0 145 ([(0, .ref 206), (2, .int a2), (3, .int a3)], [], rf_MM w m) := by
  unfold g_X14_count_145_b at hg
  refine rf_seg C [(.iload 3, 1), (.aload 0, 1), (.invokeinterface 14 16, 3)] (pc' := 150) (S' := ([(0, .ref 206), (2, .int a2), (3, .int a3)], [.int (m.1 206 16), .int a3], rf_MM w m)) (by decide +kernel) rfl trivial ?_
  refine rf_icmp_ge C 25 175 (by decide +kernel) (fun hc => ?_) (fun hc => ?_)
  · replace hg := (if_pos hc).symm.trans hg
    refine rf_seg C [(.iload 2, 1)] (pc' := 176) (S' := ([(0, .ref 206), (2, .int a2), (3, .int a3)], [.int a2], rf_MM w m)) (by decide +kernel) rfl trivial ?_
    obtain rfl := Option.some.inj hg
    exact rf_iret C hE (by decide +kernel)
  · replace hg := (if_neg hc).symm.trans hg
    refine rf_seg C [(.iload 2, 1), (.aload 0, 1), (.iload 3, 1)] (pc' := 156) (S' := ([(0, .ref 206), (2, .int a2), (3, .int a3)], [.int a3, .ref 206, .int a2], rf_MM w m)) (by decide +kernel) rfl trivial ?_
    obtain ⟨y0, m0, hc0, hg⟩ := rf_b_some hg
    refine rf_callv C rf_fit0 j_X14_isAgain (ci := 14) (As := [.int a3]) (rest := [.int a2]) mw_X14_isAgain (c_X14_isAgain hc0) (by decide) rfl (by decide) lk_14_483 rfl rfl (Nat.le_of_ble_eq_true rfl) (by decide +kernel) ?_
    show rf_V 4 (rf_sh w) K 0 0 159 ([(0, .ref 206), (2, .int a2), (3, .int a3)], [.int y0, .int a2], rf_MM w m0)
    refine rf_if_eq C 7 166 (by decide +kernel) (fun hc => ?_) (fun hc => ?_)
    · replace hg := (if_pos hc).symm.trans hg
      refine rf_seg C [(.iconst 0, 1)] (pc' := 167) (S' := ([(0, .ref 206), (2, .int a2), (3, .int a3)], [.int 0, .int a2], rf_MM w m0)) (by decide +kernel) rfl trivial ?_
      refine rf_few [0, 2] rfl ?_
      exact s_X14_count_167 C hE hr145 a3 a2 0 m0 hg
    · replace hg := (if_neg hc).symm.trans hg
      refine rf_seg C [(.iconst 1, 1)] (pc' := 163) (S' := ([(0, .ref 206), (2, .int a2), (3, .int a3)], [.int 1, .int a2], rf_MM w m0)) (by decide +kernel) rfl trivial ?_
      refine rf_goto C 4 167 (by decide +kernel) ?_
      refine rf_few [0, 2] rfl ?_
      exact s_X14_count_167 C hE hr145 a3 a2 1 m0 hg
theorem s_X14_count_145 {w : rf_w} {K : rf_K} {r : Int32 × rf_m} (C : rf_Ctx 14 cX14_count 4 9 (rf_sh w) K) (hE : rf_End (some .int) K (rf_sh w) 0 0 (some (.int r.1)) (rf_MM w r.2)) (n : Nat) : ∀ (a2 : Int32) (a3 : Int32) (m : rf_m), g_X14_count_145 w n a2 a3 m = some r → rf_V 4 (rf_sh w) K 0 0 145 ([(0, .ref 206), (2, .int a2), (3, .int a3)], [], rf_MM w m) := by
  induction n with
  | zero => intro a2 a3 m hg; cases hg
  | succ n ih => intro a2 a3 m hg; exact s_X14_count_145_b C hE ih a2 a3 m hg
theorem c_X14_count {w : rf_w} {m : rf_m} {a1 : Int32} {r : Int32 × rf_m} (hg : g_X14_count w m a1 = some r) : rf_Con j_X14_count 9 (rf_sh w) [.ref 206, .int a1] (rf_MM w m) (some (.int r.1)) (rf_MM w r.2) := by
  refine rf_con j_X14_count 9 ⟨by decide +kernel, rfl, Nat.le_of_ble_eq_true rfl⟩ (fun K C hE => ?_)
  unfold g_X14_count at hg
  show rf_V 4 (rf_sh w) K 0 0 0 ([(0, .ref 206), (1, .int a1)], [], rf_MM w m)
  refine rf_seg C [(.aload 0, 1), (.iconst 0, 1), (.multianewarray 14 0, 3), (.iload 1, 1)] (pc' := 6) (S' := ([(0, .ref 206), (1, .int a1)], [.int a1], rf_MM w (rf_i m 206 0 0))) (by decide +kernel) rfl trivial ?_
  by_cases ht0 : a1 = 0
  · replace hg := (if_pos ht0).symm.trans hg
    refine rf_tabc C ht0 76 (by decide +kernel) ?_
    refine rf_seg C [(.aload 0, 1), (.invokeinterface 14 4, 3)] (pc' := 80) (S' := ([(0, .ref 206), (1, .int a1)], [.int ((rf_i m 206 0 0).1 206 4)], rf_MM w (rf_i m 206 0 0))) (by decide +kernel) rfl trivial ?_
    obtain rfl := Option.some.inj hg
    exact rf_iret C hE (by decide +kernel)
  · replace hg := (if_neg ht0).symm.trans hg
    by_cases ht1 : a1 = 1
    · replace hg := (if_pos ht1).symm.trans hg
      refine rf_tabc C ht1 81 (by decide +kernel) ?_
      refine rf_seg C [(.aload 0, 1), (.invokeinterface 14 16, 3)] (pc' := 85) (S' := ([(0, .ref 206), (1, .int a1)], [.int ((rf_i m 206 0 0).1 206 16)], rf_MM w (rf_i m 206 0 0))) (by decide +kernel) rfl trivial ?_
      obtain rfl := Option.some.inj hg
      exact rf_iret C hE (by decide +kernel)
    · replace hg := (if_neg ht1).symm.trans hg
      by_cases ht2 : a1 = 2
      · replace hg := (if_pos ht2).symm.trans hg
        refine rf_tabc C ht2 86 (by decide +kernel) ?_
        refine rf_seg C [(.aload 0, 1), (.invokeinterface 14 17, 3)] (pc' := 90) (S' := ([(0, .ref 206), (1, .int a1)], [.int ((rf_i m 206 0 0).1 206 17)], rf_MM w (rf_i m 206 0 0))) (by decide +kernel) rfl trivial ?_
        obtain rfl := Option.some.inj hg
        exact rf_iret C hE (by decide +kernel)
      · replace hg := (if_neg ht2).symm.trans hg
        by_cases ht3 : a1 = 3
        · replace hg := (if_pos ht3).symm.trans hg
          refine rf_tabc C ht3 91 (by decide +kernel) ?_
          refine rf_seg C [(.aload 0, 1), (.invokeinterface 14 39, 3)] (pc' := 95) (S' := ([(0, .ref 206), (1, .int a1)], [.int ((rf_i m 206 0 0).1 206 39)], rf_MM w (rf_i m 206 0 0))) (by decide +kernel) rfl trivial ?_
          obtain rfl := Option.some.inj hg
          exact rf_iret C hE (by decide +kernel)
        · replace hg := (if_neg ht3).symm.trans hg
          by_cases ht4 : a1 = 4
          · replace hg := (if_pos ht4).symm.trans hg
            refine rf_tabc C ht4 96 (by decide +kernel) ?_
            refine rf_seg C [(.aload 0, 1), (.invokeinterface 14 55, 3)] (pc' := 100) (S' := ([(0, .ref 206), (1, .int a1)], [.int ((rf_i m 206 0 0).1 206 55)], rf_MM w (rf_i m 206 0 0))) (by decide +kernel) rfl trivial ?_
            obtain rfl := Option.some.inj hg
            exact rf_iret C hE (by decide +kernel)
          · replace hg := (if_neg ht4).symm.trans hg
            by_cases ht5 : a1 = 5
            · replace hg := (if_pos ht5).symm.trans hg
              refine rf_tabc C ht5 101 (by decide +kernel) ?_
              refine rf_seg C [(.aload 0, 1), (.invokeinterface 14 64, 3)] (pc' := 105) (S' := ([(0, .ref 206), (1, .int a1)], [.int ((rf_i m 206 0 0).1 206 64)], rf_MM w (rf_i m 206 0 0))) (by decide +kernel) rfl trivial ?_
              obtain rfl := Option.some.inj hg
              exact rf_iret C hE (by decide +kernel)
            · replace hg := (if_neg ht5).symm.trans hg
              by_cases ht6 : a1 = 6
              · replace hg := (if_pos ht6).symm.trans hg
                refine rf_tabc C ht6 106 (by decide +kernel) ?_
                refine rf_seg C [(.aload 0, 1), (.invokeinterface 14 65, 3)] (pc' := 110) (S' := ([(0, .ref 206), (1, .int a1)], [.int ((rf_i m 206 0 0).1 206 65)], rf_MM w (rf_i m 206 0 0))) (by decide +kernel) rfl trivial ?_
                obtain rfl := Option.some.inj hg
                exact rf_iret C hE (by decide +kernel)
              · replace hg := (if_neg ht6).symm.trans hg
                by_cases ht7 : a1 = 7
                · replace hg := (if_pos ht7).symm.trans hg
                  refine rf_tabc C ht7 111 (by decide +kernel) ?_
                  refine rf_seg C [(.aload 0, 1), (.invokeinterface 14 15, 3)] (pc' := 115) (S' := ([(0, .ref 206), (1, .int a1)], [.int ((rf_i m 206 0 0).1 206 15)], rf_MM w (rf_i m 206 0 0))) (by decide +kernel) rfl trivial ?_
                  obtain rfl := Option.some.inj hg
                  exact rf_iret C hE (by decide +kernel)
                · replace hg := (if_neg ht7).symm.trans hg
                  by_cases ht8 : a1 = 8
                  · replace hg := (if_pos ht8).symm.trans hg
                    refine rf_tabc C ht8 116 (by decide +kernel) ?_
                    refine rf_seg C [(.aload 0, 1), (.invokeinterface 14 126, 3)] (pc' := 120) (S' := ([(0, .ref 206), (1, .int a1)], [.int ((rf_i m 206 0 0).1 206 126)], rf_MM w (rf_i m 206 0 0))) (by decide +kernel) rfl trivial ?_
                    obtain rfl := Option.some.inj hg
                    exact rf_iret C hE (by decide +kernel)
                  · replace hg := (if_neg ht8).symm.trans hg
                    by_cases ht9 : a1 = 9
                    · replace hg := (if_pos ht9).symm.trans hg
                      refine rf_tabc C ht9 121 (by decide +kernel) ?_
                      refine rf_seg C [(.aload 0, 1), (.invokeinterface 14 136, 3)] (pc' := 125) (S' := ([(0, .ref 206), (1, .int a1)], [.int ((rf_i m 206 0 0).1 206 136)], rf_MM w (rf_i m 206 0 0))) (by decide +kernel) rfl trivial ?_
                      obtain rfl := Option.some.inj hg
                      exact rf_iret C hE (by decide +kernel)
                    · replace hg := (if_neg ht9).symm.trans hg
                      by_cases ht10 : a1 = 10
                      · replace hg := (if_pos ht10).symm.trans hg
                        refine rf_tabc C ht10 126 (by decide +kernel) ?_
                        refine rf_seg C [(.aload 0, 1), (.invokeinterface 14 116, 3)] (pc' := 130) (S' := ([(0, .ref 206), (1, .int a1)], [.int ((rf_i m 206 0 0).1 206 116)], rf_MM w (rf_i m 206 0 0))) (by decide +kernel) rfl trivial ?_
                        obtain rfl := Option.some.inj hg
                        exact rf_iret C hE (by decide +kernel)
                      · replace hg := (if_neg ht10).symm.trans hg
                        by_cases ht11 : a1 = 11
                        · replace hg := (if_pos ht11).symm.trans hg
                          refine rf_tabc C ht11 131 (by decide +kernel) ?_
                          refine rf_seg C [(.aload 0, 1), (.invokeinterface 14 5, 3)] (pc' := 135) (S' := ([(0, .ref 206), (1, .int a1)], [.int ((rf_i m 206 0 0).1 206 5)], rf_MM w (rf_i m 206 0 0))) (by decide +kernel) rfl trivial ?_
                          obtain rfl := Option.some.inj hg
                          exact rf_iret C hE (by decide +kernel)
                        · replace hg := (if_neg ht11).symm.trans hg
                          by_cases ht12 : a1 = 12
                          · replace hg := (if_pos ht12).symm.trans hg
                            refine rf_tabc C ht12 136 (by decide +kernel) ?_
                            refine rf_seg C [(.aload 0, 1), (.invokeinterface 14 44, 3)] (pc' := 140) (S' := ([(0, .ref 206), (1, .int a1)], [.int ((rf_i m 206 0 0).1 206 44)], rf_MM w (rf_i m 206 0 0))) (by decide +kernel) rfl trivial ?_
                            obtain rfl := Option.some.inj hg
                            exact rf_iret C hE (by decide +kernel)
                          · replace hg := (if_neg ht12).symm.trans hg
                            by_cases ht13 : a1 = 13
                            · replace hg := (if_pos ht13).symm.trans hg
                              refine rf_tabc C ht13 141 (by decide +kernel) ?_
                              refine rf_seg C [(.iconst 0, 1), (.istore 2, 1), (.iconst 0, 1), (.istore 3, 1)] (pc' := 145) (S' := ([(3, .int 0), (2, .int 0), (0, .ref 206), (1, .int a1)], [], rf_MM w (rf_i m 206 0 0))) (by decide +kernel) rfl trivial ?_
                              refine rf_few [2, 1, 0] rfl ?_
                              exact s_X14_count_145 C hE rf_fuel 0 0 (rf_i m 206 0 0) hg
                            · replace hg := (if_neg ht13).symm.trans hg
                              refine rf_tabd C 0 13 177 (by decide +kernel) (by have t0 : (a1).toInt ≠ 0 := rf_ti ht0; have t1 : (a1).toInt ≠ 1 := rf_ti ht1; have t2 : (a1).toInt ≠ 2 := rf_ti ht2; have t3 : (a1).toInt ≠ 3 := rf_ti ht3; have t4 : (a1).toInt ≠ 4 := rf_ti ht4; have t5 : (a1).toInt ≠ 5 := rf_ti ht5; have t6 : (a1).toInt ≠ 6 := rf_ti ht6; have t7 : (a1).toInt ≠ 7 := rf_ti ht7; have t8 : (a1).toInt ≠ 8 := rf_ti ht8; have t9 : (a1).toInt ≠ 9 := rf_ti ht9; have t10 : (a1).toInt ≠ 10 := rf_ti ht10; have t11 : (a1).toInt ≠ 11 := rf_ti ht11; have t12 : (a1).toInt ≠ 12 := rf_ti ht12; have t13 : (a1).toInt ≠ 13 := rf_ti ht13; omega) ?_
                              refine rf_seg C [(.iconst (-1), 1)] (pc' := 178) (S' := ([(0, .ref 206), (1, .int a1)], [.int ((-1))], rf_MM w (rf_i m 206 0 0))) (by decide +kernel) rfl trivial ?_
                              obtain rfl := Option.some.inj hg
                              exact rf_iret C hE (by decide +kernel)
-- X14_trouble
abbrev j_X14_trouble : rf_J := (14, yX14_trouble, cX14_trouble, 1, (some .int))
theorem mw_X14_trouble : rf_mv j_X14_trouble (rf_R 14) 0 := ⟨⟨rf_mem 98 (by decide +kernel), rf_mem 98 (by decide +kernel), rf_mem 0 (by decide +kernel), rf_mem 98 (by decide +kernel)⟩, by decide +kernel, by decide⟩
def g_X14_trouble (w : rf_w) (m : rf_m) : Option (Int32 × rf_m) := some ((rf_i m 206 0 0).1 206 1, rf_i m 206 0 0)
theorem c_X14_trouble {w : rf_w} {m : rf_m} {r : Int32 × rf_m} (hg : g_X14_trouble w m = some r) : rf_Con j_X14_trouble 1 (rf_sh w) [.ref 206] (rf_MM w m) (some (.int r.1)) (rf_MM w r.2) := by
  refine rf_con j_X14_trouble 1 ⟨by decide +kernel, rfl, Nat.le_of_ble_eq_true rfl⟩ (fun K C hE => ?_)
  unfold g_X14_trouble at hg
  show rf_V 1 (rf_sh w) K 0 0 0 ([(0, .ref 206)], [], rf_MM w m)
  refine rf_seg C [(.aload 0, 1), (.iconst 0, 1), (.multianewarray 14 0, 3), (.aload 0, 1), (.invokeinterface 14 1, 3)] (pc' := 9) (S' := ([(0, .ref 206)], [.int ((rf_i m 206 0 0).1 206 1)], rf_MM w (rf_i m 206 0 0))) (by decide +kernel) rfl trivial ?_
  obtain rfl := Option.some.inj hg
  exact rf_iret C hE (by decide +kernel)
