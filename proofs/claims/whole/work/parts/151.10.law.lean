/-! the law's cases (written by wip/tool/gen_law.py) -/
def g_lc_50 (w : rf_w) (m : rf_m) (y : Nat → Int32) : Option (rf_w × rf_m) := rf_b (g_X11_mass w m (y 1) (y 2)) fun z0 m0x => rf_b (g_X14_mass w m0x (y 1) (y 2)) fun z1 m1x => rf_g (decide (z0 = z1)) (some (w, m1x))
theorem lc_50 {b L mc ms : Nat} {xs y : Nat → Int32} {w w2 : rf_w} {m m2 : rf_m} {K : rf_K} {cells slots : Nat} {a4 : Int32} (B : rf_LB b L xs mc ms w K) (hs : rf_Sc xs L a4 y) (hc : cells + 3 ≤ mc) (hsl : slots + 3072 ≤ ms) (hg : g_lc_50 w m y = some (w2, m2)) (k : ∀ K', rf_LB b L xs mc ms w2 K' → rf_V 7 (rf_sh w2) K' (cells + 3) (slots + 3072) 2612 ([(0, .ref 3000000), (1, .ref 0), (2, .ref 206), (3, .ref 305), (4, .int a4)], [], rf_MM w2 m2)) : rf_V 7 (rf_sh w) K cells slots 2380 ([(0, .ref 3000000), (1, .ref 0), (2, .ref 206), (3, .ref 305), (4, .int a4)], [], rf_MM w m) := by
  unfold g_lc_50 at hg
  refine rf_seg B.1.1 [(.aload 1, 1), (.aload 0, 1), (.iload 4, 2), (.iconst 1, 1), (.iadd, 1)] (pc' := 2386) (S' := ([(0, .ref 3000000), (1, .ref 0), (2, .ref 206), (3, .ref 305), (4, .int a4)], [.int (a4 + 1), .ref 3000000, .ref 0], rf_MM w m)) (by decide +kernel) rfl trivial ?_
  refine rf_scr B hs.2.1 (by decide +kernel) ?_
  refine rf_seg B.1.1 [(.aload 0, 1), (.iload 4, 2), (.iconst 2, 1), (.iadd, 1)] (pc' := 2392) (S' := ([(0, .ref 3000000), (1, .ref 0), (2, .ref 206), (3, .ref 305), (4, .int a4)], [.int (a4 + 2), .ref 3000000, .int (y 1), .ref 0], rf_MM w m)) (by decide +kernel) rfl trivial ?_
  refine rf_scr B hs.2.2.1 (by decide +kernel) ?_
  obtain ⟨z0, m0x, h0, hg⟩ := rf_b_some hg
  refine rf_callv (idx := 239) B.1.1 (rf_LB_fit B (by omega) (by omega)) j_X11_mass (ci := 11) (As := [.int (y 1), .int (y 2)]) (rest := []) mw_X11_mass (c_X11_mass h0) (by decide) rfl (by decide) (rf_mem 94 (by decide +kernel)) rfl rfl (Nat.le_of_ble_eq_true rfl) (by decide +kernel) ?_
  show rf_V 7 (rf_sh w) K cells slots 2396 ([(0, .ref 3000000), (1, .ref 0), (2, .ref 206), (3, .ref 305), (4, .int a4)], [.int z0], rf_MM w m0x)
  refine rf_seg B.1.1 [(.aload 2, 1), (.aload 0, 1), (.iload 4, 2), (.iconst 1, 1), (.iadd, 1)] (pc' := 2402) (S' := ([(0, .ref 3000000), (1, .ref 0), (2, .ref 206), (3, .ref 305), (4, .int a4)], [.int (a4 + 1), .ref 3000000, .ref 206, .int z0], rf_MM w m0x)) (by decide +kernel) rfl trivial ?_
  refine rf_scr B hs.2.1 (by decide +kernel) ?_
  refine rf_seg B.1.1 [(.aload 0, 1), (.iload 4, 2), (.iconst 2, 1), (.iadd, 1)] (pc' := 2408) (S' := ([(0, .ref 3000000), (1, .ref 0), (2, .ref 206), (3, .ref 305), (4, .int a4)], [.int (a4 + 2), .ref 3000000, .int (y 1), .ref 206, .int z0], rf_MM w m0x)) (by decide +kernel) rfl trivial ?_
  refine rf_scr B hs.2.2.1 (by decide +kernel) ?_
  obtain ⟨z1, m1x, h1, hg⟩ := rf_b_some hg
  refine rf_callv (idx := 242) B.1.1 (rf_LB_fit B (by omega) (by omega)) j_X14_mass (ci := 14) (As := [.int (y 1), .int (y 2)]) (rest := [.int z0]) mw_X14_mass (c_X14_mass h1) (by decide) rfl (by decide) (rf_mem 94 (by decide +kernel)) rfl rfl (Nat.le_of_ble_eq_true rfl) (by decide +kernel) ?_
  show rf_V 7 (rf_sh w) K cells slots 2412 ([(0, .ref 3000000), (1, .ref 0), (2, .ref 206), (3, .ref 305), (4, .int a4)], [.int z1, .int z0], rf_MM w m1x)
  obtain ⟨q1, hg⟩ := rf_g_some hg
  obtain ⟨rfl, rfl⟩ := Prod.mk.inj (Option.some.inj hg)
  refine rf_icmp_eq B.1.1 200 2612 (by decide +kernel) (fun _ => ?_) (fun hc => absurd (of_decide_eq_true q1) hc)
  refine rf_V_wide (c' := cells + 3) (s' := slots + 3072) (by omega) (by omega) ?_
  exact k _ B
def g_lc_51 (w : rf_w) (m : rf_m) (y : Nat → Int32) : Option (rf_w × rf_m) := rf_b (g_X11_pull w m (y 1) (rf_bz (y 2))) fun z0 m0x => rf_b (g_X14_pull w m0x (y 1) (rf_bz (y 2))) fun z1 m1x => rf_g (decide (z0 = z1)) (some (w, m1x))
theorem lc_51 {b L mc ms : Nat} {xs y : Nat → Int32} {w w2 : rf_w} {m m2 : rf_m} {K : rf_K} {cells slots : Nat} {a4 : Int32} (B : rf_LB b L xs mc ms w K) (hs : rf_Sc xs L a4 y) (hc : cells + 3 ≤ mc) (hsl : slots + 3072 ≤ ms) (hg : g_lc_51 w m y = some (w2, m2)) (k : ∀ K', rf_LB b L xs mc ms w2 K' → rf_V 7 (rf_sh w2) K' (cells + 3) (slots + 3072) 2612 ([(0, .ref 3000000), (1, .ref 0), (2, .ref 206), (3, .ref 305), (4, .int a4)], [], rf_MM w2 m2)) : rf_V 7 (rf_sh w) K cells slots 2417 ([(0, .ref 3000000), (1, .ref 0), (2, .ref 206), (3, .ref 305), (4, .int a4)], [], rf_MM w m) := by
  unfold g_lc_51 at hg
  refine rf_seg B.1.1 [(.aload 1, 1), (.aload 0, 1), (.iload 4, 2), (.iconst 1, 1), (.iadd, 1)] (pc' := 2423) (S' := ([(0, .ref 3000000), (1, .ref 0), (2, .ref 206), (3, .ref 305), (4, .int a4)], [.int (a4 + 1), .ref 3000000, .ref 0], rf_MM w m)) (by decide +kernel) rfl trivial ?_
  refine rf_scr B hs.2.1 (by decide +kernel) ?_
  refine rf_seg B.1.1 [(.aload 0, 1), (.iload 4, 2), (.iconst 2, 1), (.iadd, 1)] (pc' := 2429) (S' := ([(0, .ref 3000000), (1, .ref 0), (2, .ref 206), (3, .ref 305), (4, .int a4)], [.int (a4 + 2), .ref 3000000, .int (y 1), .ref 0], rf_MM w m)) (by decide +kernel) rfl trivial ?_
  refine rf_scr B hs.2.2.1 (by decide +kernel) ?_
  refine rf_bool B.1.1 ⟨by decide +kernel, by decide +kernel, by decide +kernel, by decide +kernel⟩ ?_
  obtain ⟨z0, m0x, h0, hg⟩ := rf_b_some hg
  refine rf_callv (idx := 243) B.1.1 (rf_LB_fit B (by omega) (by omega)) j_X11_pull (ci := 11) (As := [.int (y 1), .int (rf_bz (y 2))]) (rest := []) mw_X11_pull (c_X11_pull h0) (by decide) rfl (by decide) (rf_mem 94 (by decide +kernel)) rfl rfl (Nat.le_of_ble_eq_true rfl) (by decide +kernel) ?_
  show rf_V 7 (rf_sh w) K cells slots 2441 ([(0, .ref 3000000), (1, .ref 0), (2, .ref 206), (3, .ref 305), (4, .int a4)], [.int z0], rf_MM w m0x)
  refine rf_seg B.1.1 [(.aload 2, 1), (.aload 0, 1), (.iload 4, 2), (.iconst 1, 1), (.iadd, 1)] (pc' := 2447) (S' := ([(0, .ref 3000000), (1, .ref 0), (2, .ref 206), (3, .ref 305), (4, .int a4)], [.int (a4 + 1), .ref 3000000, .ref 206, .int z0], rf_MM w m0x)) (by decide +kernel) rfl trivial ?_
  refine rf_scr B hs.2.1 (by decide +kernel) ?_
  refine rf_seg B.1.1 [(.aload 0, 1), (.iload 4, 2), (.iconst 2, 1), (.iadd, 1)] (pc' := 2453) (S' := ([(0, .ref 3000000), (1, .ref 0), (2, .ref 206), (3, .ref 305), (4, .int a4)], [.int (a4 + 2), .ref 3000000, .int (y 1), .ref 206, .int z0], rf_MM w m0x)) (by decide +kernel) rfl trivial ?_
  refine rf_scr B hs.2.2.1 (by decide +kernel) ?_
  refine rf_bool B.1.1 ⟨by decide +kernel, by decide +kernel, by decide +kernel, by decide +kernel⟩ ?_
  obtain ⟨z1, m1x, h1, hg⟩ := rf_b_some hg
  refine rf_callv (idx := 246) B.1.1 (rf_LB_fit B (by omega) (by omega)) j_X14_pull (ci := 14) (As := [.int (y 1), .int (rf_bz (y 2))]) (rest := [.int z0]) mw_X14_pull (c_X14_pull h1) (by decide) rfl (by decide) (rf_mem 95 (by decide +kernel)) rfl rfl (Nat.le_of_ble_eq_true rfl) (by decide +kernel) ?_
  show rf_V 7 (rf_sh w) K cells slots 2465 ([(0, .ref 3000000), (1, .ref 0), (2, .ref 206), (3, .ref 305), (4, .int a4)], [.int z1, .int z0], rf_MM w m1x)
  obtain ⟨q1, hg⟩ := rf_g_some hg
  obtain ⟨rfl, rfl⟩ := Prod.mk.inj (Option.some.inj hg)
  refine rf_icmp_eq B.1.1 147 2612 (by decide +kernel) (fun _ => ?_) (fun hc => absurd (of_decide_eq_true q1) hc)
  refine rf_V_wide (c' := cells + 3) (s' := slots + 3072) (by omega) (by omega) ?_
  exact k _ B
def g_lc_52 (w : rf_w) (m : rf_m) (y : Nat → Int32) : Option (rf_w × rf_m) := rf_b (g_X11_arc w m (y 1) (y 2)) fun z0 m0x => rf_b (g_X14_arc w m0x (y 1) (y 2)) fun z1 m1x => rf_g (decide (z0 = z1)) (some (w, m1x))
theorem lc_52 {b L mc ms : Nat} {xs y : Nat → Int32} {w w2 : rf_w} {m m2 : rf_m} {K : rf_K} {cells slots : Nat} {a4 : Int32} (B : rf_LB b L xs mc ms w K) (hs : rf_Sc xs L a4 y) (hc : cells + 3 ≤ mc) (hsl : slots + 3072 ≤ ms) (hg : g_lc_52 w m y = some (w2, m2)) (k : ∀ K', rf_LB b L xs mc ms w2 K' → rf_V 7 (rf_sh w2) K' (cells + 3) (slots + 3072) 2612 ([(0, .ref 3000000), (1, .ref 0), (2, .ref 206), (3, .ref 305), (4, .int a4)], [], rf_MM w2 m2)) : rf_V 7 (rf_sh w) K cells slots 2470 ([(0, .ref 3000000), (1, .ref 0), (2, .ref 206), (3, .ref 305), (4, .int a4)], [], rf_MM w m) := by
  unfold g_lc_52 at hg
  refine rf_seg B.1.1 [(.aload 1, 1), (.aload 0, 1), (.iload 4, 2), (.iconst 1, 1), (.iadd, 1)] (pc' := 2476) (S' := ([(0, .ref 3000000), (1, .ref 0), (2, .ref 206), (3, .ref 305), (4, .int a4)], [.int (a4 + 1), .ref 3000000, .ref 0], rf_MM w m)) (by decide +kernel) rfl trivial ?_
  refine rf_scr B hs.2.1 (by decide +kernel) ?_
  refine rf_seg B.1.1 [(.aload 0, 1), (.iload 4, 2), (.iconst 2, 1), (.iadd, 1)] (pc' := 2482) (S' := ([(0, .ref 3000000), (1, .ref 0), (2, .ref 206), (3, .ref 305), (4, .int a4)], [.int (a4 + 2), .ref 3000000, .int (y 1), .ref 0], rf_MM w m)) (by decide +kernel) rfl trivial ?_
  refine rf_scr B hs.2.2.1 (by decide +kernel) ?_
  obtain ⟨z0, m0x, h0, hg⟩ := rf_b_some hg
  refine rf_callv (idx := 247) B.1.1 (rf_LB_fit B (by omega) (by omega)) j_X11_arc (ci := 11) (As := [.int (y 1), .int (y 2)]) (rest := []) mw_X11_arc (c_X11_arc h0) (by decide) rfl (by decide) (rf_mem 95 (by decide +kernel)) rfl rfl (Nat.le_of_ble_eq_true rfl) (by decide +kernel) ?_
  show rf_V 7 (rf_sh w) K cells slots 2486 ([(0, .ref 3000000), (1, .ref 0), (2, .ref 206), (3, .ref 305), (4, .int a4)], [.int z0], rf_MM w m0x)
  refine rf_seg B.1.1 [(.aload 2, 1), (.aload 0, 1), (.iload 4, 2), (.iconst 1, 1), (.iadd, 1)] (pc' := 2492) (S' := ([(0, .ref 3000000), (1, .ref 0), (2, .ref 206), (3, .ref 305), (4, .int a4)], [.int (a4 + 1), .ref 3000000, .ref 206, .int z0], rf_MM w m0x)) (by decide +kernel) rfl trivial ?_
  refine rf_scr B hs.2.1 (by decide +kernel) ?_
  refine rf_seg B.1.1 [(.aload 0, 1), (.iload 4, 2), (.iconst 2, 1), (.iadd, 1)] (pc' := 2498) (S' := ([(0, .ref 3000000), (1, .ref 0), (2, .ref 206), (3, .ref 305), (4, .int a4)], [.int (a4 + 2), .ref 3000000, .int (y 1), .ref 206, .int z0], rf_MM w m0x)) (by decide +kernel) rfl trivial ?_
  refine rf_scr B hs.2.2.1 (by decide +kernel) ?_
  obtain ⟨z1, m1x, h1, hg⟩ := rf_b_some hg
  refine rf_callv (idx := 250) B.1.1 (rf_LB_fit B (by omega) (by omega)) j_X14_arc (ci := 14) (As := [.int (y 1), .int (y 2)]) (rest := [.int z0]) mw_X14_arc (c_X14_arc h1) (by decide) rfl (by decide) (rf_mem 95 (by decide +kernel)) rfl rfl (Nat.le_of_ble_eq_true rfl) (by decide +kernel) ?_
  show rf_V 7 (rf_sh w) K cells slots 2502 ([(0, .ref 3000000), (1, .ref 0), (2, .ref 206), (3, .ref 305), (4, .int a4)], [.int z1, .int z0], rf_MM w m1x)
  obtain ⟨q1, hg⟩ := rf_g_some hg
  obtain ⟨rfl, rfl⟩ := Prod.mk.inj (Option.some.inj hg)
  refine rf_icmp_eq B.1.1 110 2612 (by decide +kernel) (fun _ => ?_) (fun hc => absurd (of_decide_eq_true q1) hc)
  refine rf_V_wide (c' := cells + 3) (s' := slots + 3072) (by omega) (by omega) ?_
  exact k _ B
def g_lc_53 (w : rf_w) (m : rf_m) (y : Nat → Int32) : Option (rf_w × rf_m) := rf_b (g_X11_figure w m (rf_bz (y 1))) fun z0 m0x => rf_b (g_X14_figure w m0x (rf_bz (y 1))) fun z1 m1x => rf_g (decide (lg_cmp z0 z1 = 0)) (some (w, m1x))
theorem lc_53 {b L mc ms : Nat} {xs y : Nat → Int32} {w w2 : rf_w} {m m2 : rf_m} {K : rf_K} {cells slots : Nat} {a4 : Int32} (B : rf_LB b L xs mc ms w K) (hs : rf_Sc xs L a4 y) (hc : cells + 3 ≤ mc) (hsl : slots + 3072 ≤ ms) (hg : g_lc_53 w m y = some (w2, m2)) (k : ∀ K', rf_LB b L xs mc ms w2 K' → rf_V 7 (rf_sh w2) K' (cells + 3) (slots + 3072) 2612 ([(0, .ref 3000000), (1, .ref 0), (2, .ref 206), (3, .ref 305), (4, .int a4)], [], rf_MM w2 m2)) : rf_V 7 (rf_sh w) K cells slots 2507 ([(0, .ref 3000000), (1, .ref 0), (2, .ref 206), (3, .ref 305), (4, .int a4)], [], rf_MM w m) := by
  unfold g_lc_53 at hg
  refine rf_seg B.1.1 [(.aload 1, 1), (.aload 0, 1), (.iload 4, 2), (.iconst 1, 1), (.iadd, 1)] (pc' := 2513) (S' := ([(0, .ref 3000000), (1, .ref 0), (2, .ref 206), (3, .ref 305), (4, .int a4)], [.int (a4 + 1), .ref 3000000, .ref 0], rf_MM w m)) (by decide +kernel) rfl trivial ?_
  refine rf_scr B hs.2.1 (by decide +kernel) ?_
  refine rf_bool B.1.1 ⟨by decide +kernel, by decide +kernel, by decide +kernel, by decide +kernel⟩ ?_
  obtain ⟨z0, m0x, h0, hg⟩ := rf_b_some hg
  refine rf_callv (idx := 251) B.1.1 (rf_LB_fit B (by omega) (by omega)) j_X11_figure (ci := 11) (As := [.int (rf_bz (y 1))]) (rest := []) mw_X11_figure (c_X11_figure h0) (by decide) rfl (by decide) (rf_mem 96 (by decide +kernel)) rfl rfl (Nat.le_of_ble_eq_true rfl) (by decide +kernel) ?_
  show rf_V 7 (rf_sh w) K cells slots 2525 ([(0, .ref 3000000), (1, .ref 0), (2, .ref 206), (3, .ref 305), (4, .int a4)], [.long z0], rf_MM w m0x)
  refine rf_seg B.1.1 [(.aload 2, 1), (.aload 0, 1), (.iload 4, 2), (.iconst 1, 1), (.iadd, 1)] (pc' := 2531) (S' := ([(0, .ref 3000000), (1, .ref 0), (2, .ref 206), (3, .ref 305), (4, .int a4)], [.int (a4 + 1), .ref 3000000, .ref 206, .long z0], rf_MM w m0x)) (by decide +kernel) rfl trivial ?_
  refine rf_scr B hs.2.1 (by decide +kernel) ?_
  refine rf_bool B.1.1 ⟨by decide +kernel, by decide +kernel, by decide +kernel, by decide +kernel⟩ ?_
  obtain ⟨z1, m1x, h1, hg⟩ := rf_b_some hg
  refine rf_callv (idx := 255) B.1.1 (rf_LB_fit B (by omega) (by omega)) j_X14_figure (ci := 14) (As := [.int (rf_bz (y 1))]) (rest := [.long z0]) mw_X14_figure (c_X14_figure h1) (by decide) rfl (by decide) (rf_mem 96 (by decide +kernel)) rfl rfl (Nat.le_of_ble_eq_true rfl) (by decide +kernel) ?_
  show rf_V 7 (rf_sh w) K cells slots 2543 ([(0, .ref 3000000), (1, .ref 0), (2, .ref 206), (3, .ref 305), (4, .int a4)], [.long z1, .long z0], rf_MM w m1x)
  refine rf_seg B.1.1 [(.lcmp, 1)] (pc' := 2544) (S' := ([(0, .ref 3000000), (1, .ref 0), (2, .ref 206), (3, .ref 305), (4, .int a4)], [.int (lg_cmp z0 z1)], rf_MM w m1x)) (by decide +kernel) rfl trivial ?_
  obtain ⟨q1, hg⟩ := rf_g_some hg
  obtain ⟨rfl, rfl⟩ := Prod.mk.inj (Option.some.inj hg)
  refine rf_if_eq B.1.1 68 2612 (by decide +kernel) (fun _ => ?_) (fun hc => absurd (of_decide_eq_true q1) hc)
  refine rf_V_wide (c' := cells + 3) (s' := slots + 3072) (by omega) (by omega) ?_
  exact k _ B
def g_lc_54 (w : rf_w) (m : rf_m) (y : Nat → Int32) : Option (rf_w × rf_m) := rf_b (g_X11_pass w m (y 1)) fun z0 m0x => rf_b (g_X14_pass w m0x (y 1)) fun z1 m1x => rf_g (decide (z0 = z1)) (some (w, m1x))
theorem lc_54 {b L mc ms : Nat} {xs y : Nat → Int32} {w w2 : rf_w} {m m2 : rf_m} {K : rf_K} {cells slots : Nat} {a4 : Int32} (B : rf_LB b L xs mc ms w K) (hs : rf_Sc xs L a4 y) (hc : cells + 3 ≤ mc) (hsl : slots + 3072 ≤ ms) (hg : g_lc_54 w m y = some (w2, m2)) (k : ∀ K', rf_LB b L xs mc ms w2 K' → rf_V 7 (rf_sh w2) K' (cells + 3) (slots + 3072) 2612 ([(0, .ref 3000000), (1, .ref 0), (2, .ref 206), (3, .ref 305), (4, .int a4)], [], rf_MM w2 m2)) : rf_V 7 (rf_sh w) K cells slots 2549 ([(0, .ref 3000000), (1, .ref 0), (2, .ref 206), (3, .ref 305), (4, .int a4)], [], rf_MM w m) := by
  unfold g_lc_54 at hg
  refine rf_seg B.1.1 [(.aload 1, 1), (.aload 0, 1), (.iload 4, 2), (.iconst 1, 1), (.iadd, 1)] (pc' := 2555) (S' := ([(0, .ref 3000000), (1, .ref 0), (2, .ref 206), (3, .ref 305), (4, .int a4)], [.int (a4 + 1), .ref 3000000, .ref 0], rf_MM w m)) (by decide +kernel) rfl trivial ?_
  refine rf_scr B hs.2.1 (by decide +kernel) ?_
  obtain ⟨z0, m0x, h0, hg⟩ := rf_b_some hg
  refine rf_callv (idx := 256) B.1.1 (rf_LB_fit B (by omega) (by omega)) j_X11_pass (ci := 11) (As := [.int (y 1)]) (rest := []) mw_X11_pass (c_X11_pass h0) (by decide) rfl (by decide) (rf_mem 96 (by decide +kernel)) rfl rfl (Nat.le_of_ble_eq_true rfl) (by decide +kernel) ?_
  show rf_V 7 (rf_sh w) K cells slots 2559 ([(0, .ref 3000000), (1, .ref 0), (2, .ref 206), (3, .ref 305), (4, .int a4)], [.int z0], rf_MM w m0x)
  refine rf_seg B.1.1 [(.aload 2, 1), (.aload 0, 1), (.iload 4, 2), (.iconst 1, 1), (.iadd, 1)] (pc' := 2565) (S' := ([(0, .ref 3000000), (1, .ref 0), (2, .ref 206), (3, .ref 305), (4, .int a4)], [.int (a4 + 1), .ref 3000000, .ref 206, .int z0], rf_MM w m0x)) (by decide +kernel) rfl trivial ?_
  refine rf_scr B hs.2.1 (by decide +kernel) ?_
  obtain ⟨z1, m1x, h1, hg⟩ := rf_b_some hg
  refine rf_callv (idx := 259) B.1.1 (rf_LB_fit B (by omega) (by omega)) j_X14_pass (ci := 14) (As := [.int (y 1)]) (rest := [.int z0]) mw_X14_pass (c_X14_pass h1) (by decide) rfl (by decide) (rf_mem 97 (by decide +kernel)) rfl rfl (Nat.le_of_ble_eq_true rfl) (by decide +kernel) ?_
  show rf_V 7 (rf_sh w) K cells slots 2569 ([(0, .ref 3000000), (1, .ref 0), (2, .ref 206), (3, .ref 305), (4, .int a4)], [.int z1, .int z0], rf_MM w m1x)
  obtain ⟨q1, hg⟩ := rf_g_some hg
  obtain ⟨rfl, rfl⟩ := Prod.mk.inj (Option.some.inj hg)
  refine rf_icmp_eq B.1.1 43 2612 (by decide +kernel) (fun _ => ?_) (fun hc => absurd (of_decide_eq_true q1) hc)
  refine rf_V_wide (c' := cells + 3) (s' := slots + 3072) (by omega) (by omega) ?_
  exact k _ B
