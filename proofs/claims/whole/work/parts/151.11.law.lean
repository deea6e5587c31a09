/-! the law's cases (written by wip/tool/gen_law.py) -/
def g_lc_55 (w : rf_w) (m : rf_m) (y : Nat → Int32) : Option (rf_w × rf_m) := rf_b (g_X11_count w m (y 1)) fun z0 m0x => rf_b (g_X14_count w m0x (y 1)) fun z1 m1x => rf_g (decide (z0 = z1)) (some (w, m1x))
theorem lc_55 {b L mc ms : Nat} {xs y : Nat → Int32} {w w2 : rf_w} {m m2 : rf_m} {K : rf_K} {cells slots : Nat} {a4 : Int32} (B : rf_LB b L xs mc ms w K) (hs : rf_Sc xs L a4 y) (hc : cells + 3 ≤ mc) (hsl : slots + 3072 ≤ ms) (hg : g_lc_55 w m y = some (w2, m2)) (k : ∀ K', rf_LB b L xs mc ms w2 K' → rf_V 7 (rf_sh w2) K' (cells + 3) (slots + 3072) 2612 ([(0, .ref 3000000), (1, .ref 0), (2, .ref 206), (3, .ref 305), (4, .int a4)], [], rf_MM w2 m2)) : rf_V 7 (rf_sh w) K cells slots 2574 ([(0, .ref 3000000), (1, .ref 0), (2, .ref 206), (3, .ref 305), (4, .int a4)], [], rf_MM w m) := by
  unfold g_lc_55 at hg
  refine rf_seg B.1.1 [(.aload 1, 1), (.aload 0, 1), (.iload 4, 2), (.iconst 1, 1), (.iadd, 1)] (pc' := 2580) (S' := ([(0, .ref 3000000), (1, .ref 0), (2, .ref 206), (3, .ref 305), (4, .int a4)], [.int (a4 + 1), .ref 3000000, .ref 0], rf_MM w m)) (by decide +kernel) rfl trivial ?_
  refine rf_scr B hs.2.1 (by decide +kernel) ?_
  obtain ⟨z0, m0x, h0, hg⟩ := rf_b_some hg
  refine rf_callv (idx := 260) B.1.1 (rf_LB_fit B (by omega) (by omega)) j_X11_count (ci := 11) (As := [.int (y 1)]) (rest := []) mw_X11_count (c_X11_count h0) (by decide) rfl (by decide) (rf_mem 97 (by decide +kernel)) rfl rfl (Nat.le_of_ble_eq_true rfl) (by decide +kernel) ?_
  show rf_V 7 (rf_sh w) K cells slots 2584 ([(0, .ref 3000000), (1, .ref 0), (2, .ref 206), (3, .ref 305), (4, .int a4)], [.int z0], rf_MM w m0x)
  refine rf_seg B.1.1 [(.aload 2, 1), (.aload 0, 1), (.iload 4, 2), (.iconst 1, 1), (.iadd, 1)] (pc' := 2590) (S' := ([(0, .ref 3000000), (1, .ref 0), (2, .ref 206), (3, .ref 305), (4, .int a4)], [.int (a4 + 1), .ref 3000000, .ref 206, .int z0], rf_MM w m0x)) (by decide +kernel) rfl trivial ?_
  refine rf_scr B hs.2.1 (by decide +kernel) ?_
  obtain ⟨z1, m1x, h1, hg⟩ := rf_b_some hg
  refine rf_callv (idx := 263) B.1.1 (rf_LB_fit B (by omega) (by omega)) j_X14_count (ci := 14) (As := [.int (y 1)]) (rest := [.int z0]) mw_X14_count (c_X14_count h1) (by decide) rfl (by decide) (rf_mem 97 (by decide +kernel)) rfl rfl (Nat.le_of_ble_eq_true rfl) (by decide +kernel) ?_
  show rf_V 7 (rf_sh w) K cells slots 2594 ([(0, .ref 3000000), (1, .ref 0), (2, .ref 206), (3, .ref 305), (4, .int a4)], [.int z1, .int z0], rf_MM w m1x)
  obtain ⟨q1, hg⟩ := rf_g_some hg
  obtain ⟨rfl, rfl⟩ := Prod.mk.inj (Option.some.inj hg)
  refine rf_icmp_eq B.1.1 18 2612 (by decide +kernel) (fun _ => ?_) (fun hc => absurd (of_decide_eq_true q1) hc)
  refine rf_V_wide (c' := cells + 3) (s' := slots + 3072) (by omega) (by omega) ?_
  exact k _ B
def g_lc_56 (w : rf_w) (m : rf_m) (y : Nat → Int32) : Option (rf_w × rf_m) := rf_b (g_X11_trouble w m) fun z0 m0x => rf_b (g_X14_trouble w m0x) fun z1 m1x => rf_g (decide (z0 = z1)) (some (w, m1x))
theorem lc_56 {b L mc ms : Nat} {xs y : Nat → Int32} {w w2 : rf_w} {m m2 : rf_m} {K : rf_K} {cells slots : Nat} {a4 : Int32} (B : rf_LB b L xs mc ms w K) (hs : rf_Sc xs L a4 y) (hc : cells + 3 ≤ mc) (hsl : slots + 3072 ≤ ms) (hg : g_lc_56 w m y = some (w2, m2)) (k : ∀ K', rf_LB b L xs mc ms w2 K' → rf_V 7 (rf_sh w2) K' (cells + 3) (slots + 3072) 2612 ([(0, .ref 3000000), (1, .ref 0), (2, .ref 206), (3, .ref 305), (4, .int a4)], [], rf_MM w2 m2)) : rf_V 7 (rf_sh w) K cells slots 2599 ([(0, .ref 3000000), (1, .ref 0), (2, .ref 206), (3, .ref 305), (4, .int a4)], [], rf_MM w m) := by
  unfold g_lc_56 at hg
  refine rf_seg B.1.1 [(.aload 1, 1)] (pc' := 2600) (S' := ([(0, .ref 3000000), (1, .ref 0), (2, .ref 206), (3, .ref 305), (4, .int a4)], [.ref 0], rf_MM w m)) (by decide +kernel) rfl trivial ?_
  obtain ⟨z0, m0x, h0, hg⟩ := rf_b_some hg
  refine rf_callv (idx := 264) B.1.1 (rf_LB_fit B (by omega) (by omega)) j_X11_trouble (ci := 11) (As := []) (rest := []) mw_X11_trouble (c_X11_trouble h0) (by decide) rfl (by decide) (rf_mem 97 (by decide +kernel)) rfl rfl (Nat.le_of_ble_eq_true rfl) (by decide +kernel) ?_
  show rf_V 7 (rf_sh w) K cells slots 2603 ([(0, .ref 3000000), (1, .ref 0), (2, .ref 206), (3, .ref 305), (4, .int a4)], [.int z0], rf_MM w m0x)
  refine rf_seg B.1.1 [(.aload 2, 1)] (pc' := 2604) (S' := ([(0, .ref 3000000), (1, .ref 0), (2, .ref 206), (3, .ref 305), (4, .int a4)], [.ref 206, .int z0], rf_MM w m0x)) (by decide +kernel) rfl trivial ?_
  obtain ⟨z1, m1x, h1, hg⟩ := rf_b_some hg
  refine rf_callv (idx := 267) B.1.1 (rf_LB_fit B (by omega) (by omega)) j_X14_trouble (ci := 14) (As := []) (rest := [.int z0]) mw_X14_trouble (c_X14_trouble h1) (by decide) rfl (by decide) (rf_mem 98 (by decide +kernel)) rfl rfl (Nat.le_of_ble_eq_true rfl) (by decide +kernel) ?_
  show rf_V 7 (rf_sh w) K cells slots 2607 ([(0, .ref 3000000), (1, .ref 0), (2, .ref 206), (3, .ref 305), (4, .int a4)], [.int z1, .int z0], rf_MM w m1x)
  obtain ⟨q1, hg⟩ := rf_g_some hg
  obtain ⟨rfl, rfl⟩ := Prod.mk.inj (Option.some.inj hg)
  refine rf_icmp_eq B.1.1 5 2612 (by decide +kernel) (fun _ => ?_) (fun hc => absurd (of_decide_eq_true q1) hc)
  refine rf_V_wide (c' := cells + 3) (s' := slots + 3072) (by omega) (by omega) ?_
  exact k _ B
