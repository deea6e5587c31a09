/-! the law's cases (written by wip/tool/gen_law.py) -/
def g_lc_15 (w : rf_w) (m : rf_m) (y : Nat → Int32) : Option (rf_w × rf_m) := rf_b (g_X11_rule w m (y 1) (y 2) (y 3)) fun z0 m0x => rf_bw (g_X14_rule_0 w (y 1) (y 2) (y 3) m0x) fun z1 w1 m1x => rf_g (decide (z0 = z1)) (some (w1, m1x))
theorem lc_15 {b L mc ms : Nat} {xs y : Nat → Int32} {w w2 : rf_w} {m m2 : rf_m} {K : rf_K} {cells slots : Nat} {a4 : Int32} (B : rf_LB b L xs mc ms w K) (hs : rf_Sc xs L a4 y) (hc : cells + 3 ≤ mc) (hsl : slots + 3072 ≤ ms) (hg : g_lc_15 w m y = some (w2, m2)) (k : ∀ K', rf_LB b L xs mc ms w2 K' → rf_V 7 (rf_sh w2) K' (cells + 3) (slots + 3072) 2612 ([(0, .ref 3000000), (1, .ref 0), (2, .ref 206), (3, .ref 305), (4, .int a4)], [], rf_MM w2 m2)) : rf_V 7 (rf_sh w) K cells slots 1026 ([(0, .ref 3000000), (1, .ref 0), (2, .ref 206), (3, .ref 305), (4, .int a4)], [], rf_MM w m) := by
  unfold g_lc_15 at hg
  refine rf_seg B.1.1 [(.aload 1, 1), (.aload 0, 1), (.iload 4, 2), (.iconst 1, 1), (.iadd, 1)] (pc' := 1032) (S' := ([(0, .ref 3000000), (1, .ref 0), (2, .ref 206), (3, .ref 305), (4, .int a4)], [.int (a4 + 1), .ref 3000000, .ref 0], rf_MM w m)) (by decide +kernel) rfl trivial ?_
  refine rf_scr B hs.2.1 (by decide +kernel) ?_
  refine rf_seg B.1.1 [(.aload 0, 1), (.iload 4, 2), (.iconst 2, 1), (.iadd, 1)] (pc' := 1038) (S' := ([(0, .ref 3000000), (1, .ref 0), (2, .ref 206), (3, .ref 305), (4, .int a4)], [.int (a4 + 2), .ref 3000000, .int (y 1), .ref 0], rf_MM w m)) (by decide +kernel) rfl trivial ?_
  refine rf_scr B hs.2.2.1 (by decide +kernel) ?_
  refine rf_seg B.1.1 [(.aload 0, 1), (.iload 4, 2), (.iconst 3, 1), (.iadd, 1)] (pc' := 1044) (S' := ([(0, .ref 3000000), (1, .ref 0), (2, .ref 206), (3, .ref 305), (4, .int a4)], [.int (a4 + 3), .ref 3000000, .int (y 2), .int (y 1), .ref 0], rf_MM w m)) (by decide +kernel) rfl trivial ?_
  refine rf_scr B hs.2.2.2.1 (by decide +kernel) ?_
  obtain ⟨z0, m0x, h0, hg⟩ := rf_b_some hg
  refine rf_callv (idx := 94) B.1.1 (rf_LB_fit B (by omega) (by omega)) j_X11_rule (ci := 11) (As := [.int (y 1), .int (y 2), .int (y 3)]) (rest := []) mw_X11_rule (c_X11_rule h0) (by decide) rfl (by decide) (rf_mem 35 (by decide +kernel)) rfl rfl (Nat.le_of_ble_eq_true rfl) (by decide +kernel) ?_
  show rf_V 7 (rf_sh w) K cells slots 1048 ([(0, .ref 3000000), (1, .ref 0), (2, .ref 206), (3, .ref 305), (4, .int a4)], [.int z0], rf_MM w m0x)
  refine rf_seg B.1.1 [(.aload 2, 1), (.aload 0, 1), (.iload 4, 2), (.iconst 1, 1), (.iadd, 1)] (pc' := 1054) (S' := ([(0, .ref 3000000), (1, .ref 0), (2, .ref 206), (3, .ref 305), (4, .int a4)], [.int (a4 + 1), .ref 3000000, .ref 206, .int z0], rf_MM w m0x)) (by decide +kernel) rfl trivial ?_
  refine rf_scr B hs.2.1 (by decide +kernel) ?_
  refine rf_seg B.1.1 [(.aload 0, 1), (.iload 4, 2), (.iconst 2, 1), (.iadd, 1)] (pc' := 1060) (S' := ([(0, .ref 3000000), (1, .ref 0), (2, .ref 206), (3, .ref 305), (4, .int a4)], [.int (a4 + 2), .ref 3000000, .int (y 1), .ref 206, .int z0], rf_MM w m0x)) (by decide +kernel) rfl trivial ?_
  refine rf_scr B hs.2.2.1 (by decide +kernel) ?_
  refine rf_seg B.1.1 [(.aload 0, 1), (.iload 4, 2), (.iconst 3, 1), (.iadd, 1)] (pc' := 1066) (S' := ([(0, .ref 3000000), (1, .ref 0), (2, .ref 206), (3, .ref 305), (4, .int a4)], [.int (a4 + 3), .ref 3000000, .int (y 2), .int (y 1), .ref 206, .int z0], rf_MM w m0x)) (by decide +kernel) rfl trivial ?_
  refine rf_scr B hs.2.2.2.1 (by decide +kernel) ?_
  obtain ⟨⟨z1, w1, m1x⟩, h1, hg⟩ := rf_bw_some hg
  have hgw := gw_X14_rule B.2.1 h1
  refine rf_gcallvW (idx := 97) (sh' := rf_sh w1) (rf_LB_gb B) j_X14_rule [(56, 60, 63, 93)] (ci := 14) (As := [.int (y 1), .int (y 2), .int (y 3)]) (rest := [.int z0]) mw_X14_rule (c_X14_rule B.2.1 h1) (by decide) hgw.2 rfl rfl (by decide) (rf_mem 46 (by decide +kernel)) rfl rfl (Nat.le_of_ble_eq_true rfl) (rf_lv5 B.2.1) rfl (by omega) (by omega) (by decide +kernel) (fun K1 G => ?_)
  have B := rf_LB_of B G hgw.1
  show rf_V 7 (rf_sh w1) K1 (cells + 3) (slots + 607) 1070 ([(0, .ref 3000000), (1, .ref 0), (2, .ref 206), (3, .ref 305), (4, .int a4)], [.int z1, .int z0], rf_MM w1 m1x)
  obtain ⟨q1, hg⟩ := rf_g_some hg
  obtain ⟨rfl, rfl⟩ := Prod.mk.inj (Option.some.inj hg)
  refine rf_icmp_eq B.1.1 1542 2612 (by decide +kernel) (fun _ => ?_) (fun hc => absurd (of_decide_eq_true q1) hc)
  refine rf_V_wide (c' := cells + 3) (s' := slots + 3072) (by omega) (by omega) ?_
  exact k _ B
def g_lc_16 (w : rf_w) (m : rf_m) (y : Nat → Int32) : Option (rf_w × rf_m) := rf_b (g_X11_fault w m) fun z0 m0x => rf_b (g_X14_fault w m0x) fun z1 m1x => rf_g (decide (z0 = z1)) (some (w, m1x))
theorem lc_16 {b L mc ms : Nat} {xs y : Nat → Int32} {w w2 : rf_w} {m m2 : rf_m} {K : rf_K} {cells slots : Nat} {a4 : Int32} (B : rf_LB b L xs mc ms w K) (hs : rf_Sc xs L a4 y) (hc : cells + 3 ≤ mc) (hsl : slots + 3072 ≤ ms) (hg : g_lc_16 w m y = some (w2, m2)) (k : ∀ K', rf_LB b L xs mc ms w2 K' → rf_V 7 (rf_sh w2) K' (cells + 3) (slots + 3072) 2612 ([(0, .ref 3000000), (1, .ref 0), (2, .ref 206), (3, .ref 305), (4, .int a4)], [], rf_MM w2 m2)) : rf_V 7 (rf_sh w) K cells slots 1075 ([(0, .ref 3000000), (1, .ref 0), (2, .ref 206), (3, .ref 305), (4, .int a4)], [], rf_MM w m) := by
  unfold g_lc_16 at hg
  refine rf_seg B.1.1 [(.aload 1, 1)] (pc' := 1076) (S' := ([(0, .ref 3000000), (1, .ref 0), (2, .ref 206), (3, .ref 305), (4, .int a4)], [.ref 0], rf_MM w m)) (by decide +kernel) rfl trivial ?_
  obtain ⟨z0, m0x, h0, hg⟩ := rf_b_some hg
  refine rf_callv (idx := 98) B.1.1 (rf_LB_fit B (by omega) (by omega)) j_X11_fault (ci := 11) (As := []) (rest := []) mw_X11_fault (c_X11_fault h0) (by decide) rfl (by decide) (rf_mem 50 (by decide +kernel)) rfl rfl (Nat.le_of_ble_eq_true rfl) (by decide +kernel) ?_
  show rf_V 7 (rf_sh w) K cells slots 1079 ([(0, .ref 3000000), (1, .ref 0), (2, .ref 206), (3, .ref 305), (4, .int a4)], [.int z0], rf_MM w m0x)
  refine rf_seg B.1.1 [(.aload 2, 1)] (pc' := 1080) (S' := ([(0, .ref 3000000), (1, .ref 0), (2, .ref 206), (3, .ref 305), (4, .int a4)], [.ref 206, .int z0], rf_MM w m0x)) (by decide +kernel) rfl trivial ?_
  obtain ⟨z1, m1x, h1, hg⟩ := rf_b_some hg
  refine rf_callv (idx := 101) B.1.1 (rf_LB_fit B (by omega) (by omega)) j_X14_fault (ci := 14) (As := []) (rest := [.int z0]) mw_X14_fault (c_X14_fault h1) (by decide) rfl (by decide) (rf_mem 50 (by decide +kernel)) rfl rfl (Nat.le_of_ble_eq_true rfl) (by decide +kernel) ?_
  show rf_V 7 (rf_sh w) K cells slots 1083 ([(0, .ref 3000000), (1, .ref 0), (2, .ref 206), (3, .ref 305), (4, .int a4)], [.int z1, .int z0], rf_MM w m1x)
  obtain ⟨q1, hg⟩ := rf_g_some hg
  obtain ⟨rfl, rfl⟩ := Prod.mk.inj (Option.some.inj hg)
  refine rf_icmp_eq B.1.1 1529 2612 (by decide +kernel) (fun _ => ?_) (fun hc => absurd (of_decide_eq_true q1) hc)
  refine rf_V_wide (c' := cells + 3) (s' := slots + 3072) (by omega) (by omega) ?_
  exact k _ B
def g_lc_17 (w : rf_w) (m : rf_m) (y : Nat → Int32) : Option (rf_w × rf_m) := rf_b (g_X11_where w m) fun z0 m0x => rf_b (g_X14_where w m0x) fun z1 m1x => rf_g (decide (z0 = z1)) (some (w, m1x))
theorem lc_17 {b L mc ms : Nat} {xs y : Nat → Int32} {w w2 : rf_w} {m m2 : rf_m} {K : rf_K} {cells slots : Nat} {a4 : Int32} (B : rf_LB b L xs mc ms w K) (hs : rf_Sc xs L a4 y) (hc : cells + 3 ≤ mc) (hsl : slots + 3072 ≤ ms) (hg : g_lc_17 w m y = some (w2, m2)) (k : ∀ K', rf_LB b L xs mc ms w2 K' → rf_V 7 (rf_sh w2) K' (cells + 3) (slots + 3072) 2612 ([(0, .ref 3000000), (1, .ref 0), (2, .ref 206), (3, .ref 305), (4, .int a4)], [], rf_MM w2 m2)) : rf_V 7 (rf_sh w) K cells slots 1088 ([(0, .ref 3000000), (1, .ref 0), (2, .ref 206), (3, .ref 305), (4, .int a4)], [], rf_MM w m) := by
  unfold g_lc_17 at hg
  refine rf_seg B.1.1 [(.aload 1, 1)] (pc' := 1089) (S' := ([(0, .ref 3000000), (1, .ref 0), (2, .ref 206), (3, .ref 305), (4, .int a4)], [.ref 0], rf_MM w m)) (by decide +kernel) rfl trivial ?_
  obtain ⟨z0, m0x, h0, hg⟩ := rf_b_some hg
  refine rf_callv (idx := 102) B.1.1 (rf_LB_fit B (by omega) (by omega)) j_X11_where (ci := 11) (As := []) (rest := []) mw_X11_where (c_X11_where h0) (by decide) rfl (by decide) (rf_mem 50 (by decide +kernel)) rfl rfl (Nat.le_of_ble_eq_true rfl) (by decide +kernel) ?_
  show rf_V 7 (rf_sh w) K cells slots 1092 ([(0, .ref 3000000), (1, .ref 0), (2, .ref 206), (3, .ref 305), (4, .int a4)], [.int z0], rf_MM w m0x)
  refine rf_seg B.1.1 [(.aload 2, 1)] (pc' := 1093) (S' := ([(0, .ref 3000000), (1, .ref 0), (2, .ref 206), (3, .ref 305), (4, .int a4)], [.ref 206, .int z0], rf_MM w m0x)) (by decide +kernel) rfl trivial ?_
  obtain ⟨z1, m1x, h1, hg⟩ := rf_b_some hg
  refine rf_callv (idx := 105) B.1.1 (rf_LB_fit B (by omega) (by omega)) j_X14_where (ci := 14) (As := []) (rest := [.int z0]) mw_X14_where (c_X14_where h1) (by decide) rfl (by decide) (rf_mem 51 (by decide +kernel)) rfl rfl (Nat.le_of_ble_eq_true rfl) (by decide +kernel) ?_
  show rf_V 7 (rf_sh w) K cells slots 1096 ([(0, .ref 3000000), (1, .ref 0), (2, .ref 206), (3, .ref 305), (4, .int a4)], [.int z1, .int z0], rf_MM w m1x)
  obtain ⟨q1, hg⟩ := rf_g_some hg
  obtain ⟨rfl, rfl⟩ := Prod.mk.inj (Option.some.inj hg)
  refine rf_icmp_eq B.1.1 1516 2612 (by decide +kernel) (fun _ => ?_) (fun hc => absurd (of_decide_eq_true q1) hc)
  refine rf_V_wide (c' := cells + 3) (s' := slots + 3072) (by omega) (by omega) ?_
  exact k _ B
def g_lc_18 (w : rf_w) (m : rf_m) (y : Nat → Int32) : Option (rf_w × rf_m) := rf_b (g_X11_force w m (y 1) (y 2) (y 3)) fun z0 m0x => rf_b (g_X14_force w m0x (y 1) (y 2) (y 3)) fun z1 m1x => rf_g (decide (z0 = z1)) (some (w, m1x))
theorem lc_18 {b L mc ms : Nat} {xs y : Nat → Int32} {w w2 : rf_w} {m m2 : rf_m} {K : rf_K} {cells slots : Nat} {a4 : Int32} (B : rf_LB b L xs mc ms w K) (hs : rf_Sc xs L a4 y) (hc : cells + 3 ≤ mc) (hsl : slots + 3072 ≤ ms) (hg : g_lc_18 w m y = some (w2, m2)) (k : ∀ K', rf_LB b L xs mc ms w2 K' → rf_V 7 (rf_sh w2) K' (cells + 3) (slots + 3072) 2612 ([(0, .ref 3000000), (1, .ref 0), (2, .ref 206), (3, .ref 305), (4, .int a4)], [], rf_MM w2 m2)) : rf_V 7 (rf_sh w) K cells slots 1101 ([(0, .ref 3000000), (1, .ref 0), (2, .ref 206), (3, .ref 305), (4, .int a4)], [], rf_MM w m) := by
  unfold g_lc_18 at hg
  refine rf_seg B.1.1 [(.aload 1, 1), (.aload 0, 1), (.iload 4, 2), (.iconst 1, 1), (.iadd, 1)] (pc' := 1107) (S' := ([(0, .ref 3000000), (1, .ref 0), (2, .ref 206), (3, .ref 305), (4, .int a4)], [.int (a4 + 1), .ref 3000000, .ref 0], rf_MM w m)) (by decide +kernel) rfl trivial ?_
  refine rf_scr B hs.2.1 (by decide +kernel) ?_
  refine rf_seg B.1.1 [(.aload 0, 1), (.iload 4, 2), (.iconst 2, 1), (.iadd, 1)] (pc' := 1113) (S' := ([(0, .ref 3000000), (1, .ref 0), (2, .ref 206), (3, .ref 305), (4, .int a4)], [.int (a4 + 2), .ref 3000000, .int (y 1), .ref 0], rf_MM w m)) (by decide +kernel) rfl trivial ?_
  refine rf_scr B hs.2.2.1 (by decide +kernel) ?_
  refine rf_seg B.1.1 [(.aload 0, 1), (.iload 4, 2), (.iconst 3, 1), (.iadd, 1)] (pc' := 1119) (S' := ([(0, .ref 3000000), (1, .ref 0), (2, .ref 206), (3, .ref 305), (4, .int a4)], [.int (a4 + 3), .ref 3000000, .int (y 2), .int (y 1), .ref 0], rf_MM w m)) (by decide +kernel) rfl trivial ?_
  refine rf_scr B hs.2.2.2.1 (by decide +kernel) ?_
  obtain ⟨z0, m0x, h0, hg⟩ := rf_b_some hg
  refine rf_callv (idx := 106) B.1.1 (rf_LB_fit B (by omega) (by omega)) j_X11_force (ci := 11) (As := [.int (y 1), .int (y 2), .int (y 3)]) (rest := []) mw_X11_force (c_X11_force h0) (by decide) rfl (by decide) (rf_mem 51 (by decide +kernel)) rfl rfl (Nat.le_of_ble_eq_true rfl) (by decide +kernel) ?_
  show rf_V 7 (rf_sh w) K cells slots 1123 ([(0, .ref 3000000), (1, .ref 0), (2, .ref 206), (3, .ref 305), (4, .int a4)], [.int z0], rf_MM w m0x)
  refine rf_seg B.1.1 [(.aload 2, 1), (.aload 0, 1), (.iload 4, 2), (.iconst 1, 1), (.iadd, 1)] (pc' := 1129) (S' := ([(0, .ref 3000000), (1, .ref 0), (2, .ref 206), (3, .ref 305), (4, .int a4)], [.int (a4 + 1), .ref 3000000, .ref 206, .int z0], rf_MM w m0x)) (by decide +kernel) rfl trivial ?_
  refine rf_scr B hs.2.1 (by decide +kernel) ?_
  refine rf_seg B.1.1 [(.aload 0, 1), (.iload 4, 2), (.iconst 2, 1), (.iadd, 1)] (pc' := 1135) (S' := ([(0, .ref 3000000), (1, .ref 0), (2, .ref 206), (3, .ref 305), (4, .int a4)], [.int (a4 + 2), .ref 3000000, .int (y 1), .ref 206, .int z0], rf_MM w m0x)) (by decide +kernel) rfl trivial ?_
  refine rf_scr B hs.2.2.1 (by decide +kernel) ?_
  refine rf_seg B.1.1 [(.aload 0, 1), (.iload 4, 2), (.iconst 3, 1), (.iadd, 1)] (pc' := 1141) (S' := ([(0, .ref 3000000), (1, .ref 0), (2, .ref 206), (3, .ref 305), (4, .int a4)], [.int (a4 + 3), .ref 3000000, .int (y 2), .int (y 1), .ref 206, .int z0], rf_MM w m0x)) (by decide +kernel) rfl trivial ?_
  refine rf_scr B hs.2.2.2.1 (by decide +kernel) ?_
  obtain ⟨z1, m1x, h1, hg⟩ := rf_b_some hg
  refine rf_callv (idx := 109) B.1.1 (rf_LB_fit B (by omega) (by omega)) j_X14_force (ci := 14) (As := [.int (y 1), .int (y 2), .int (y 3)]) (rest := [.int z0]) mw_X14_force (c_X14_force h1) (by decide) rfl (by decide) (rf_mem 51 (by decide +kernel)) rfl rfl (Nat.le_of_ble_eq_true rfl) (by decide +kernel) ?_
  show rf_V 7 (rf_sh w) K cells slots 1145 ([(0, .ref 3000000), (1, .ref 0), (2, .ref 206), (3, .ref 305), (4, .int a4)], [.int z1, .int z0], rf_MM w m1x)
  obtain ⟨q1, hg⟩ := rf_g_some hg
  obtain ⟨rfl, rfl⟩ := Prod.mk.inj (Option.some.inj hg)
  refine rf_icmp_eq B.1.1 1467 2612 (by decide +kernel) (fun _ => ?_) (fun hc => absurd (of_decide_eq_true q1) hc)
  refine rf_V_wide (c' := cells + 3) (s' := slots + 3072) (by omega) (by omega) ?_
  exact k _ B
def g_lc_19 (w : rf_w) (m : rf_m) (y : Nat → Int32) : Option (rf_w × rf_m) := rf_b (g_X11_told w m (y 1)) fun z0 m0x => rf_b (g_X14_told w m0x (y 1)) fun z1 m1x => rf_g (decide (z0 = z1)) (some (w, m1x))
theorem lc_19 {b L mc ms : Nat} {xs y : Nat → Int32} {w w2 : rf_w} {m m2 : rf_m} {K : rf_K} {cells slots : Nat} {a4 : Int32} (B : rf_LB b L xs mc ms w K) (hs : rf_Sc xs L a4 y) (hc : cells + 3 ≤ mc) (hsl : slots + 3072 ≤ ms) (hg : g_lc_19 w m y = some (w2, m2)) (k : ∀ K', rf_LB b L xs mc ms w2 K' → rf_V 7 (rf_sh w2) K' (cells + 3) (slots + 3072) 2612 ([(0, .ref 3000000), (1, .ref 0), (2, .ref 206), (3, .ref 305), (4, .int a4)], [], rf_MM w2 m2)) : rf_V 7 (rf_sh w) K cells slots 1150 ([(0, .ref 3000000), (1, .ref 0), (2, .ref 206), (3, .ref 305), (4, .int a4)], [], rf_MM w m) := by
  unfold g_lc_19 at hg
  refine rf_seg B.1.1 [(.aload 1, 1), (.aload 0, 1), (.iload 4, 2), (.iconst 1, 1), (.iadd, 1)] (pc' := 1156) (S' := ([(0, .ref 3000000), (1, .ref 0), (2, .ref 206), (3, .ref 305), (4, .int a4)], [.int (a4 + 1), .ref 3000000, .ref 0], rf_MM w m)) (by decide +kernel) rfl trivial ?_
  refine rf_scr B hs.2.1 (by decide +kernel) ?_
  obtain ⟨z0, m0x, h0, hg⟩ := rf_b_some hg
  refine rf_callv (idx := 110) B.1.1 (rf_LB_fit B (by omega) (by omega)) j_X11_told (ci := 11) (As := [.int (y 1)]) (rest := []) mw_X11_told (c_X11_told h0) (by decide) rfl (by decide) (rf_mem 51 (by decide +kernel)) rfl rfl (Nat.le_of_ble_eq_true rfl) (by decide +kernel) ?_
  show rf_V 7 (rf_sh w) K cells slots 1160 ([(0, .ref 3000000), (1, .ref 0), (2, .ref 206), (3, .ref 305), (4, .int a4)], [.int z0], rf_MM w m0x)
  refine rf_seg B.1.1 [(.aload 2, 1), (.aload 0, 1), (.iload 4, 2), (.iconst 1, 1), (.iadd, 1)] (pc' := 1166) (S' := ([(0, .ref 3000000), (1, .ref 0), (2, .ref 206), (3, .ref 305), (4, .int a4)], [.int (a4 + 1), .ref 3000000, .ref 206, .int z0], rf_MM w m0x)) (by decide +kernel) rfl trivial ?_
  refine rf_scr B hs.2.1 (by decide +kernel) ?_
  obtain ⟨z1, m1x, h1, hg⟩ := rf_b_some hg
  refine rf_callv (idx := 113) B.1.1 (rf_LB_fit B (by omega) (by omega)) j_X14_told (ci := 14) (As := [.int (y 1)]) (rest := [.int z0]) mw_X14_told (c_X14_told h1) (by decide) rfl (by decide) (rf_mem 52 (by decide +kernel)) rfl rfl (Nat.le_of_ble_eq_true rfl) (by decide +kernel) ?_
  show rf_V 7 (rf_sh w) K cells slots 1170 ([(0, .ref 3000000), (1, .ref 0), (2, .ref 206), (3, .ref 305), (4, .int a4)], [.int z1, .int z0], rf_MM w m1x)
  obtain ⟨q1, hg⟩ := rf_g_some hg
  obtain ⟨rfl, rfl⟩ := Prod.mk.inj (Option.some.inj hg)
  refine rf_icmp_eq B.1.1 1442 2612 (by decide +kernel) (fun _ => ?_) (fun hc => absurd (of_decide_eq_true q1) hc)
  refine rf_V_wide (c' := cells + 3) (s' := slots + 3072) (by omega) (by omega) ?_
  exact k _ B
