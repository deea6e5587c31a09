/-! the law's cases (written by wip/tool/gen_law.py) -/
def g_lc_10 (w : rf_w) (m : rf_m) (y : Nat → Int32) : Option (rf_w × rf_m) := rf_b (g_X11_strike w m (y 1) (y 2) (rf_bz (y 3))) fun z0 m0x => rf_bw (g_X14_strike_0 w (y 1) (y 2) (rf_bz (y 3)) m0x) fun z1 w1 m1x => rf_g (decide (z0 = z1)) (some (w1, m1x))
theorem lc_10 {b L mc ms : Nat} {xs y : Nat → Int32} {w w2 : rf_w} {m m2 : rf_m} {K : rf_K} {cells slots : Nat} {a4 : Int32} (B : rf_LB b L xs mc ms w K) (hs : rf_Sc xs L a4 y) (hc : cells + 3 ≤ mc) (hsl : slots + 3072 ≤ ms) (hg : g_lc_10 w m y = some (w2, m2)) (k : ∀ K', rf_LB b L xs mc ms w2 K' → rf_V 7 (rf_sh w2) K' (cells + 3) (slots + 3072) 2612 ([(0, .ref 3000000), (1, .ref 0), (2, .ref 206), (3, .ref 305), (4, .int a4)], [], rf_MM w2 m2)) : rf_V 7 (rf_sh w) K cells slots 746 ([(0, .ref 3000000), (1, .ref 0), (2, .ref 206), (3, .ref 305), (4, .int a4)], [], rf_MM w m) := by
  unfold g_lc_10 at hg
  refine rf_seg B.1.1 [(.aload 1, 1), (.aload 0, 1), (.iload 4, 2), (.iconst 1, 1), (.iadd, 1)] (pc' := 752) (S' := ([(0, .ref 3000000), (1, .ref 0), (2, .ref 206), (3, .ref 305), (4, .int a4)], [.int (a4 + 1), .ref 3000000, .ref 0], rf_MM w m)) (by decide +kernel) rfl trivial ?_
  refine rf_scr B hs.2.1 (by decide +kernel) ?_
  refine rf_seg B.1.1 [(.aload 0, 1), (.iload 4, 2), (.iconst 2, 1), (.iadd, 1)] (pc' := 758) (S' := ([(0, .ref 3000000), (1, .ref 0), (2, .ref 206), (3, .ref 305), (4, .int a4)], [.int (a4 + 2), .ref 3000000, .int (y 1), .ref 0], rf_MM w m)) (by decide +kernel) rfl trivial ?_
  refine rf_scr B hs.2.2.1 (by decide +kernel) ?_
  refine rf_seg B.1.1 [(.aload 0, 1), (.iload 4, 2), (.iconst 3, 1), (.iadd, 1)] (pc' := 764) (S' := ([(0, .ref 3000000), (1, .ref 0), (2, .ref 206), (3, .ref 305), (4, .int a4)], [.int (a4 + 3), .ref 3000000, .int (y 2), .int (y 1), .ref 0], rf_MM w m)) (by decide +kernel) rfl trivial ?_
  refine rf_scr B hs.2.2.2.1 (by decide +kernel) ?_
  refine rf_bool B.1.1 ⟨by decide +kernel, by decide +kernel, by decide +kernel, by decide +kernel⟩ ?_
  obtain ⟨z0, m0x, h0, hg⟩ := rf_b_some hg
  refine rf_callv (idx := 66) B.1.1 (rf_LB_fit B (by omega) (by omega)) j_X11_strike (ci := 11) (As := [.int (y 1), .int (y 2), .int (rf_bz (y 3))]) (rest := []) mw_X11_strike (c_X11_strike h0) (by decide) rfl (by decide) (rf_mem 30 (by decide +kernel)) rfl rfl (Nat.le_of_ble_eq_true rfl) (by decide +kernel) ?_
  show rf_V 7 (rf_sh w) K cells slots 776 ([(0, .ref 3000000), (1, .ref 0), (2, .ref 206), (3, .ref 305), (4, .int a4)], [.int z0], rf_MM w m0x)
  refine rf_seg B.1.1 [(.aload 2, 1), (.aload 0, 1), (.iload 4, 2), (.iconst 1, 1), (.iadd, 1)] (pc' := 782) (S' := ([(0, .ref 3000000), (1, .ref 0), (2, .ref 206), (3, .ref 305), (4, .int a4)], [.int (a4 + 1), .ref 3000000, .ref 206, .int z0], rf_MM w m0x)) (by decide +kernel) rfl trivial ?_
  refine rf_scr B hs.2.1 (by decide +kernel) ?_
  refine rf_seg B.1.1 [(.aload 0, 1), (.iload 4, 2), (.iconst 2, 1), (.iadd, 1)] (pc' := 788) (S' := ([(0, .ref 3000000), (1, .ref 0), (2, .ref 206), (3, .ref 305), (4, .int a4)], [.int (a4 + 2), .ref 3000000, .int (y 1), .ref 206, .int z0], rf_MM w m0x)) (by decide +kernel) rfl trivial ?_
  refine rf_scr B hs.2.2.1 (by decide +kernel) ?_
  refine rf_seg B.1.1 [(.aload 0, 1), (.iload 4, 2), (.iconst 3, 1), (.iadd, 1)] (pc' := 794) (S' := ([(0, .ref 3000000), (1, .ref 0), (2, .ref 206), (3, .ref 305), (4, .int a4)], [.int (a4 + 3), .ref 3000000, .int (y 2), .int (y 1), .ref 206, .int z0], rf_MM w m0x)) (by decide +kernel) rfl trivial ?_
  refine rf_scr B hs.2.2.2.1 (by decide +kernel) ?_
  refine rf_bool B.1.1 ⟨by decide +kernel, by decide +kernel, by decide +kernel, by decide +kernel⟩ ?_
  obtain ⟨⟨z1, w1, m1x⟩, h1, hg⟩ := rf_bw_some hg
  have hgw := gw_X14_strike B.2.1 h1
  refine rf_gcallv (idx := 70) (sh' := rf_sh w1) (rf_LB_gb B) j_X14_strike (ci := 14) (As := [.int (y 1), .int (y 2), .int (rf_bz (y 3))]) (rest := [.int z0]) mw_X14_strike (c_X14_strike B.2.1 h1) (by decide) hgw.2 rfl rfl (by decide) (rf_mem 31 (by decide +kernel)) rfl rfl (Nat.le_of_ble_eq_true rfl) (rf_lv5 B.2.1) rfl (by omega) (by omega) (by decide +kernel) (fun K1 G => ?_)
  have B := rf_LB_of B G hgw.1
  show rf_V 7 (rf_sh w1) K1 (cells + 1) (slots + 3072) 806 ([(0, .ref 3000000), (1, .ref 0), (2, .ref 206), (3, .ref 305), (4, .int a4)], [.int z1, .int z0], rf_MM w1 m1x)
  obtain ⟨q1, hg⟩ := rf_g_some hg
  obtain ⟨rfl, rfl⟩ := Prod.mk.inj (Option.some.inj hg)
  refine rf_icmp_eq B.1.1 1806 2612 (by decide +kernel) (fun _ => ?_) (fun hc => absurd (of_decide_eq_true q1) hc)
  refine rf_V_wide (c' := cells + 3) (s' := slots + 3072) (by omega) (by omega) ?_
  exact k _ B
def g_lc_11 (w : rf_w) (m : rf_m) (y : Nat → Int32) : Option (rf_w × rf_m) := rf_b (g_X11_angleOf w m (y 1) (y 2)) fun z0 m0x => rf_b (g_X14_angleOf w m0x (y 1) (y 2)) fun z1 m1x => rf_g (decide (z0 = z1)) (some (w, m1x))
theorem lc_11 {b L mc ms : Nat} {xs y : Nat → Int32} {w w2 : rf_w} {m m2 : rf_m} {K : rf_K} {cells slots : Nat} {a4 : Int32} (B : rf_LB b L xs mc ms w K) (hs : rf_Sc xs L a4 y) (hc : cells + 3 ≤ mc) (hsl : slots + 3072 ≤ ms) (hg : g_lc_11 w m y = some (w2, m2)) (k : ∀ K', rf_LB b L xs mc ms w2 K' → rf_V 7 (rf_sh w2) K' (cells + 3) (slots + 3072) 2612 ([(0, .ref 3000000), (1, .ref 0), (2, .ref 206), (3, .ref 305), (4, .int a4)], [], rf_MM w2 m2)) : rf_V 7 (rf_sh w) K cells slots 811 ([(0, .ref 3000000), (1, .ref 0), (2, .ref 206), (3, .ref 305), (4, .int a4)], [], rf_MM w m) := by
  unfold g_lc_11 at hg
  refine rf_seg B.1.1 [(.aload 1, 1), (.aload 0, 1), (.iload 4, 2), (.iconst 1, 1), (.iadd, 1)] (pc' := 817) (S' := ([(0, .ref 3000000), (1, .ref 0), (2, .ref 206), (3, .ref 305), (4, .int a4)], [.int (a4 + 1), .ref 3000000, .ref 0], rf_MM w m)) (by decide +kernel) rfl trivial ?_
  refine rf_scr B hs.2.1 (by decide +kernel) ?_
  refine rf_seg B.1.1 [(.aload 0, 1), (.iload 4, 2), (.iconst 2, 1), (.iadd, 1)] (pc' := 823) (S' := ([(0, .ref 3000000), (1, .ref 0), (2, .ref 206), (3, .ref 305), (4, .int a4)], [.int (a4 + 2), .ref 3000000, .int (y 1), .ref 0], rf_MM w m)) (by decide +kernel) rfl trivial ?_
  refine rf_scr B hs.2.2.1 (by decide +kernel) ?_
  obtain ⟨z0, m0x, h0, hg⟩ := rf_b_some hg
  refine rf_callv (idx := 71) B.1.1 (rf_LB_fit B (by omega) (by omega)) j_X11_angleOf (ci := 11) (As := [.int (y 1), .int (y 2)]) (rest := []) mw_X11_angleOf (c_X11_angleOf h0) (by decide) rfl (by decide) (rf_mem 31 (by decide +kernel)) rfl rfl (Nat.le_of_ble_eq_true rfl) (by decide +kernel) ?_
  show rf_V 7 (rf_sh w) K cells slots 827 ([(0, .ref 3000000), (1, .ref 0), (2, .ref 206), (3, .ref 305), (4, .int a4)], [.int z0], rf_MM w m0x)
  refine rf_seg B.1.1 [(.aload 2, 1), (.aload 0, 1), (.iload 4, 2), (.iconst 1, 1), (.iadd, 1)] (pc' := 833) (S' := ([(0, .ref 3000000), (1, .ref 0), (2, .ref 206), (3, .ref 305), (4, .int a4)], [.int (a4 + 1), .ref 3000000, .ref 206, .int z0], rf_MM w m0x)) (by decide +kernel) rfl trivial ?_
  refine rf_scr B hs.2.1 (by decide +kernel) ?_
  refine rf_seg B.1.1 [(.aload 0, 1), (.iload 4, 2), (.iconst 2, 1), (.iadd, 1)] (pc' := 839) (S' := ([(0, .ref 3000000), (1, .ref 0), (2, .ref 206), (3, .ref 305), (4, .int a4)], [.int (a4 + 2), .ref 3000000, .int (y 1), .ref 206, .int z0], rf_MM w m0x)) (by decide +kernel) rfl trivial ?_
  refine rf_scr B hs.2.2.1 (by decide +kernel) ?_
  obtain ⟨z1, m1x, h1, hg⟩ := rf_b_some hg
  refine rf_callv (idx := 74) B.1.1 (rf_LB_fit B (by omega) (by omega)) j_X14_angleOf (ci := 14) (As := [.int (y 1), .int (y 2)]) (rest := [.int z0]) mw_X14_angleOf (c_X14_angleOf h1) (by decide) rfl (by decide) (rf_mem 32 (by decide +kernel)) rfl rfl (Nat.le_of_ble_eq_true rfl) (by decide +kernel) ?_
  show rf_V 7 (rf_sh w) K cells slots 843 ([(0, .ref 3000000), (1, .ref 0), (2, .ref 206), (3, .ref 305), (4, .int a4)], [.int z1, .int z0], rf_MM w m1x)
  obtain ⟨q1, hg⟩ := rf_g_some hg
  obtain ⟨rfl, rfl⟩ := Prod.mk.inj (Option.some.inj hg)
  refine rf_icmp_eq B.1.1 1769 2612 (by decide +kernel) (fun _ => ?_) (fun hc => absurd (of_decide_eq_true q1) hc)
  refine rf_V_wide (c' := cells + 3) (s' := slots + 3072) (by omega) (by omega) ?_
  exact k _ B
def g_lc_12 (w : rf_w) (m : rf_m) (y : Nat → Int32) : Option (rf_w × rf_m) := rf_b (g_X11_known w m (y 1) (y 2)) fun z0 m0x => rf_b (g_X14_known w m0x (y 1) (y 2)) fun z1 m1x => rf_g (decide (z0 = z1)) (some (w, m1x))
theorem lc_12 {b L mc ms : Nat} {xs y : Nat → Int32} {w w2 : rf_w} {m m2 : rf_m} {K : rf_K} {cells slots : Nat} {a4 : Int32} (B : rf_LB b L xs mc ms w K) (hs : rf_Sc xs L a4 y) (hc : cells + 3 ≤ mc) (hsl : slots + 3072 ≤ ms) (hg : g_lc_12 w m y = some (w2, m2)) (k : ∀ K', rf_LB b L xs mc ms w2 K' → rf_V 7 (rf_sh w2) K' (cells + 3) (slots + 3072) 2612 ([(0, .ref 3000000), (1, .ref 0), (2, .ref 206), (3, .ref 305), (4, .int a4)], [], rf_MM w2 m2)) : rf_V 7 (rf_sh w) K cells slots 848 ([(0, .ref 3000000), (1, .ref 0), (2, .ref 206), (3, .ref 305), (4, .int a4)], [], rf_MM w m) := by
  unfold g_lc_12 at hg
  refine rf_seg B.1.1 [(.aload 1, 1), (.aload 0, 1), (.iload 4, 2), (.iconst 1, 1), (.iadd, 1)] (pc' := 854) (S' := ([(0, .ref 3000000), (1, .ref 0), (2, .ref 206), (3, .ref 305), (4, .int a4)], [.int (a4 + 1), .ref 3000000, .ref 0], rf_MM w m)) (by decide +kernel) rfl trivial ?_
  refine rf_scr B hs.2.1 (by decide +kernel) ?_
  refine rf_seg B.1.1 [(.aload 0, 1), (.iload 4, 2), (.iconst 2, 1), (.iadd, 1)] (pc' := 860) (S' := ([(0, .ref 3000000), (1, .ref 0), (2, .ref 206), (3, .ref 305), (4, .int a4)], [.int (a4 + 2), .ref 3000000, .int (y 1), .ref 0], rf_MM w m)) (by decide +kernel) rfl trivial ?_
  refine rf_scr B hs.2.2.1 (by decide +kernel) ?_
  obtain ⟨z0, m0x, h0, hg⟩ := rf_b_some hg
  refine rf_callv (idx := 75) B.1.1 (rf_LB_fit B (by omega) (by omega)) j_X11_known (ci := 11) (As := [.int (y 1), .int (y 2)]) (rest := []) mw_X11_known (c_X11_known h0) (by decide) rfl (by decide) (rf_mem 33 (by decide +kernel)) rfl rfl (Nat.le_of_ble_eq_true rfl) (by decide +kernel) ?_
  show rf_V 7 (rf_sh w) K cells slots 864 ([(0, .ref 3000000), (1, .ref 0), (2, .ref 206), (3, .ref 305), (4, .int a4)], [.int z0], rf_MM w m0x)
  refine rf_seg B.1.1 [(.aload 2, 1), (.aload 0, 1), (.iload 4, 2), (.iconst 1, 1), (.iadd, 1)] (pc' := 870) (S' := ([(0, .ref 3000000), (1, .ref 0), (2, .ref 206), (3, .ref 305), (4, .int a4)], [.int (a4 + 1), .ref 3000000, .ref 206, .int z0], rf_MM w m0x)) (by decide +kernel) rfl trivial ?_
  refine rf_scr B hs.2.1 (by decide +kernel) ?_
  refine rf_seg B.1.1 [(.aload 0, 1), (.iload 4, 2), (.iconst 2, 1), (.iadd, 1)] (pc' := 876) (S' := ([(0, .ref 3000000), (1, .ref 0), (2, .ref 206), (3, .ref 305), (4, .int a4)], [.int (a4 + 2), .ref 3000000, .int (y 1), .ref 206, .int z0], rf_MM w m0x)) (by decide +kernel) rfl trivial ?_
  refine rf_scr B hs.2.2.1 (by decide +kernel) ?_
  obtain ⟨z1, m1x, h1, hg⟩ := rf_b_some hg
  refine rf_callv (idx := 78) B.1.1 (rf_LB_fit B (by omega) (by omega)) j_X14_known (ci := 14) (As := [.int (y 1), .int (y 2)]) (rest := [.int z0]) mw_X14_known (c_X14_known h1) (by decide) rfl (by decide) (rf_mem 33 (by decide +kernel)) rfl rfl (Nat.le_of_ble_eq_true rfl) (by decide +kernel) ?_
  show rf_V 7 (rf_sh w) K cells slots 880 ([(0, .ref 3000000), (1, .ref 0), (2, .ref 206), (3, .ref 305), (4, .int a4)], [.int z1, .int z0], rf_MM w m1x)
  obtain ⟨q1, hg⟩ := rf_g_some hg
  obtain ⟨rfl, rfl⟩ := Prod.mk.inj (Option.some.inj hg)
  refine rf_icmp_eq B.1.1 1732 2612 (by decide +kernel) (fun _ => ?_) (fun hc => absurd (of_decide_eq_true q1) hc)
  refine rf_V_wide (c' := cells + 3) (s' := slots + 3072) (by omega) (by omega) ?_
  exact k _ B
def g_lc_13 (w : rf_w) (m : rf_m) (y : Nat → Int32) : Option (rf_w × rf_m) := rf_b (g_L_led w m (y 1) (y 2)) fun z0 m0x => rf_b (g_X14_led w m0x (y 1) (y 2)) fun z1 m1x => rf_b (g_X14_thrown w m1x) fun z2 m2x => rf_g (decide (z2 = z0)) (rf_g (rf_l13 z0 (m2x.2 305 0) z1) (some (w, m2x)))
theorem lc_13 {b L mc ms : Nat} {xs y : Nat → Int32} {w w2 : rf_w} {m m2 : rf_m} {K : rf_K} {cells slots : Nat} {a4 : Int32} (B : rf_LB b L xs mc ms w K) (hs : rf_Sc xs L a4 y) (hc : cells + 3 ≤ mc) (hsl : slots + 3072 ≤ ms) (hg : g_lc_13 w m y = some (w2, m2)) (k : ∀ K', rf_LB b L xs mc ms w2 K' → rf_V 7 (rf_sh w2) K' (cells + 3) (slots + 3072) 2612 ([(0, .ref 3000000), (1, .ref 0), (2, .ref 206), (3, .ref 305), (4, .int a4)], [], rf_MM w2 m2)) : rf_V 7 (rf_sh w) K cells slots 885 ([(0, .ref 3000000), (1, .ref 0), (2, .ref 206), (3, .ref 305), (4, .int a4)], [], rf_MM w m) := by
  unfold g_lc_13 at hg
  refine rf_seg B.1.1 [(.aload 1, 1), (.aload 0, 1), (.iload 4, 2), (.iconst 1, 1), (.iadd, 1)] (pc' := 891) (S' := ([(0, .ref 3000000), (1, .ref 0), (2, .ref 206), (3, .ref 305), (4, .int a4)], [.int (a4 + 1), .ref 3000000, .ref 0], rf_MM w m)) (by decide +kernel) rfl trivial ?_
  refine rf_scr B hs.2.1 (by decide +kernel) ?_
  refine rf_seg B.1.1 [(.aload 0, 1), (.iload 4, 2), (.iconst 2, 1), (.iadd, 1)] (pc' := 897) (S' := ([(0, .ref 3000000), (1, .ref 0), (2, .ref 206), (3, .ref 305), (4, .int a4)], [.int (a4 + 2), .ref 3000000, .int (y 1), .ref 0], rf_MM w m)) (by decide +kernel) rfl trivial ?_
  refine rf_scr B hs.2.2.1 (by decide +kernel) ?_
  refine rf_seg B.1.1 [(.aload 3, 1)] (pc' := 899) (S' := ([(0, .ref 3000000), (1, .ref 0), (2, .ref 206), (3, .ref 305), (4, .int a4)], [.ref 305, .int (y 2), .int (y 1), .ref 0], rf_MM w m)) (by decide +kernel) rfl trivial ?_
  obtain ⟨z0, m0x, h0, hg⟩ := rf_b_some hg
  refine rf_callL B (c_L_led h0) (by decide) rfl (by omega) (by omega) (by decide +kernel) ?_
  show rf_V 7 (rf_sh w) K (cells + 1) (slots + 6) 902 ([(0, .ref 3000000), (1, .ref 0), (2, .ref 206), (3, .ref 305), (4, .int a4)], [.int z0], rf_MM w m0x)
  refine rf_seg B.1.1 [(.istore 5, 2), (.aload 2, 1), (.aload 0, 1), (.iload 4, 2), (.iconst 1, 1), (.iadd, 1)] (pc' := 910) (S' := ([(5, .int z0), (0, .ref 3000000), (1, .ref 0), (2, .ref 206), (3, .ref 305), (4, .int a4)], [.int (a4 + 1), .ref 3000000, .ref 206], rf_MM w m0x)) (by decide +kernel) rfl trivial ?_
  refine rf_scr B hs.2.1 (by decide +kernel) ?_
  refine rf_seg B.1.1 [(.aload 0, 1), (.iload 4, 2), (.iconst 2, 1), (.iadd, 1)] (pc' := 916) (S' := ([(5, .int z0), (0, .ref 3000000), (1, .ref 0), (2, .ref 206), (3, .ref 305), (4, .int a4)], [.int (a4 + 2), .ref 3000000, .int (y 1), .ref 206], rf_MM w m0x)) (by decide +kernel) rfl trivial ?_
  refine rf_scr B hs.2.2.1 (by decide +kernel) ?_
  obtain ⟨z1, m1x, h1, hg⟩ := rf_b_some hg
  refine rf_callv (idx := 84) B.1.1 (rf_LB_fit B (by omega) (by omega)) j_X14_led (ci := 14) (As := [.int (y 1), .int (y 2)]) (rest := []) mw_X14_led (c_X14_led h1) (by decide) rfl (by decide) (rf_mem 34 (by decide +kernel)) rfl rfl (Nat.le_of_ble_eq_true rfl) (by decide +kernel) ?_
  show rf_V 7 (rf_sh w) K (cells + 1) (slots + 6) 920 ([(5, .int z0), (0, .ref 3000000), (1, .ref 0), (2, .ref 206), (3, .ref 305), (4, .int a4)], [.int z1], rf_MM w m1x)
  refine rf_seg B.1.1 [(.istore 6, 2), (.aload 2, 1)] (pc' := 923) (S' := ([(6, .int z1), (5, .int z0), (0, .ref 3000000), (1, .ref 0), (2, .ref 206), (3, .ref 305), (4, .int a4)], [.ref 206], rf_MM w m1x)) (by decide +kernel) rfl trivial ?_
  obtain ⟨z2, m2x, h2, hg⟩ := rf_b_some hg
  refine rf_callv (idx := 85) B.1.1 (rf_LB_fit B (by omega) (by omega)) j_X14_thrown (ci := 14) (As := []) (rest := []) mw_X14_thrown (c_X14_thrown h2) (by decide) rfl (by decide) (rf_mem 35 (by decide +kernel)) rfl rfl (Nat.le_of_ble_eq_true rfl) (by decide +kernel) ?_
  show rf_V 7 (rf_sh w) K (cells + 1) (slots + 6) 926 ([(6, .int z1), (5, .int z0), (0, .ref 3000000), (1, .ref 0), (2, .ref 206), (3, .ref 305), (4, .int a4)], [.int z2], rf_MM w m2x)
  refine rf_seg B.1.1 [(.iload 5, 2)] (pc' := 928) (S' := ([(6, .int z1), (5, .int z0), (0, .ref 3000000), (1, .ref 0), (2, .ref 206), (3, .ref 305), (4, .int a4)], [.int z0, .int z2], rf_MM w m2x)) (by decide +kernel) rfl trivial ?_
  obtain ⟨q1, hg⟩ := rf_g_some hg
  refine rf_icmp_eq B.1.1 5 933 (by decide +kernel) (fun _ => ?_) (fun hc => absurd (of_decide_eq_true q1) hc)
  refine rf_seg B.1.1 [(.iload 5, 2)] (pc' := 935) (S' := ([(6, .int z1), (5, .int z0), (0, .ref 3000000), (1, .ref 0), (2, .ref 206), (3, .ref 305), (4, .int a4)], [.int z0], rf_MM w m2x)) (by decide +kernel) rfl trivial ?_
  obtain ⟨q2, hg⟩ := rf_g_some hg
  obtain ⟨rfl, rfl⟩ := Prod.mk.inj (Option.some.inj hg)
  refine rf_if_ne B.1.1 15 950 (by decide +kernel) (fun hc => ?_) (fun hc => ?_)
  · refine rf_goto B.1.1 1662 2612 (by decide +kernel) ?_
    refine rf_V_wide (c' := cells + 3) (s' := slots + 3072) (by omega) (by omega) ?_
    refine rf_few [2, 3, 4, 5, 6] rfl ?_
    exact k K B
  · refine rf_seg B.1.1 [(.aload 3, 1), (.iconst 0, 1), (.laload, 1), (.iload 6, 2), (.i2l, 1), (.lcmp, 1)] (pc' := 945) (S' := ([(6, .int z1), (5, .int z0), (0, .ref 3000000), (1, .ref 0), (2, .ref 206), (3, .ref 305), (4, .int a4)], [.int (lg_cmp (m2x.2 305 0) (Int32.toInt64 z1))], rf_MM w m2x)) (by decide +kernel) rfl (rf_in_of (by decide)) ?_
    refine rf_if_eq B.1.1 5 950 (by decide +kernel) (fun _ => ?_) (fun h9 => absurd (rf_l13_of q2 hc) h9)
    refine rf_goto B.1.1 1662 2612 (by decide +kernel) ?_
    refine rf_V_wide (c' := cells + 3) (s' := slots + 3072) (by omega) (by omega) ?_
    refine rf_few [2, 3, 4, 5, 6] rfl ?_
    exact k K B
def g_lc_14 (w : rf_w) (m : rf_m) (y : Nat → Int32) : Option (rf_w × rf_m) := rf_b (g_X11_feed w m (y 1) (y 2) (y 3) (y 4) (y 5)) fun z0 m0x => rf_b (g_X14_feed w m0x (y 1) (y 2) (y 3) (y 4) (y 5)) fun z1 m1x => rf_g (decide (z0 = z1)) (some (w, m1x))
theorem lc_14 {b L mc ms : Nat} {xs y : Nat → Int32} {w w2 : rf_w} {m m2 : rf_m} {K : rf_K} {cells slots : Nat} {a4 : Int32} (B : rf_LB b L xs mc ms w K) (hs : rf_Sc xs L a4 y) (hc : cells + 3 ≤ mc) (hsl : slots + 3072 ≤ ms) (hg : g_lc_14 w m y = some (w2, m2)) (k : ∀ K', rf_LB b L xs mc ms w2 K' → rf_V 7 (rf_sh w2) K' (cells + 3) (slots + 3072) 2612 ([(0, .ref 3000000), (1, .ref 0), (2, .ref 206), (3, .ref 305), (4, .int a4)], [], rf_MM w2 m2)) : rf_V 7 (rf_sh w) K cells slots 953 ([(0, .ref 3000000), (1, .ref 0), (2, .ref 206), (3, .ref 305), (4, .int a4)], [], rf_MM w m) := by
  unfold g_lc_14 at hg
  refine rf_seg B.1.1 [(.aload 1, 1), (.aload 0, 1), (.iload 4, 2), (.iconst 1, 1), (.iadd, 1)] (pc' := 959) (S' := ([(0, .ref 3000000), (1, .ref 0), (2, .ref 206), (3, .ref 305), (4, .int a4)], [.int (a4 + 1), .ref 3000000, .ref 0], rf_MM w m)) (by decide +kernel) rfl trivial ?_
  refine rf_scr B hs.2.1 (by decide +kernel) ?_
  refine rf_seg B.1.1 [(.aload 0, 1), (.iload 4, 2), (.iconst 2, 1), (.iadd, 1)] (pc' := 965) (S' := ([(0, .ref 3000000), (1, .ref 0), (2, .ref 206), (3, .ref 305), (4, .int a4)], [.int (a4 + 2), .ref 3000000, .int (y 1), .ref 0], rf_MM w m)) (by decide +kernel) rfl trivial ?_
  refine rf_scr B hs.2.2.1 (by decide +kernel) ?_
  refine rf_seg B.1.1 [(.aload 0, 1), (.iload 4, 2), (.iconst 3, 1), (.iadd, 1)] (pc' := 971) (S' := ([(0, .ref 3000000), (1, .ref 0), (2, .ref 206), (3, .ref 305), (4, .int a4)], [.int (a4 + 3), .ref 3000000, .int (y 2), .int (y 1), .ref 0], rf_MM w m)) (by decide +kernel) rfl trivial ?_
  refine rf_scr B hs.2.2.2.1 (by decide +kernel) ?_
  refine rf_seg B.1.1 [(.aload 0, 1), (.iload 4, 2), (.iconst 4, 1), (.iadd, 1)] (pc' := 977) (S' := ([(0, .ref 3000000), (1, .ref 0), (2, .ref 206), (3, .ref 305), (4, .int a4)], [.int (a4 + 4), .ref 3000000, .int (y 3), .int (y 2), .int (y 1), .ref 0], rf_MM w m)) (by decide +kernel) rfl trivial ?_
  refine rf_scr B hs.2.2.2.2.1 (by decide +kernel) ?_
  refine rf_seg B.1.1 [(.aload 0, 1), (.iload 4, 2), (.iconst 5, 1), (.iadd, 1)] (pc' := 983) (S' := ([(0, .ref 3000000), (1, .ref 0), (2, .ref 206), (3, .ref 305), (4, .int a4)], [.int (a4 + 5), .ref 3000000, .int (y 4), .int (y 3), .int (y 2), .int (y 1), .ref 0], rf_MM w m)) (by decide +kernel) rfl trivial ?_
  refine rf_scr B hs.2.2.2.2.2.1 (by decide +kernel) ?_
  obtain ⟨z0, m0x, h0, hg⟩ := rf_b_some hg
  refine rf_callv (idx := 89) B.1.1 (rf_LB_fit B (by omega) (by omega)) j_X11_feed (ci := 11) (As := [.int (y 1), .int (y 2), .int (y 3), .int (y 4), .int (y 5)]) (rest := []) mw_X11_feed (c_X11_feed h0) (by decide) rfl (by decide) (rf_mem 35 (by decide +kernel)) rfl rfl (Nat.le_of_ble_eq_true rfl) (by decide +kernel) ?_
  show rf_V 7 (rf_sh w) K cells slots 987 ([(0, .ref 3000000), (1, .ref 0), (2, .ref 206), (3, .ref 305), (4, .int a4)], [.int z0], rf_MM w m0x)
  refine rf_seg B.1.1 [(.aload 2, 1), (.aload 0, 1), (.iload 4, 2), (.iconst 1, 1), (.iadd, 1)] (pc' := 993) (S' := ([(0, .ref 3000000), (1, .ref 0), (2, .ref 206), (3, .ref 305), (4, .int a4)], [.int (a4 + 1), .ref 3000000, .ref 206, .int z0], rf_MM w m0x)) (by decide +kernel) rfl trivial ?_
  refine rf_scr B hs.2.1 (by decide +kernel) ?_
  refine rf_seg B.1.1 [(.aload 0, 1), (.iload 4, 2), (.iconst 2, 1), (.iadd, 1)] (pc' := 999) (S' := ([(0, .ref 3000000), (1, .ref 0), (2, .ref 206), (3, .ref 305), (4, .int a4)], [.int (a4 + 2), .ref 3000000, .int (y 1), .ref 206, .int z0], rf_MM w m0x)) (by decide +kernel) rfl trivial ?_
  refine rf_scr B hs.2.2.1 (by decide +kernel) ?_
  refine rf_seg B.1.1 [(.aload 0, 1), (.iload 4, 2), (.iconst 3, 1), (.iadd, 1)] (pc' := 1005) (S' := ([(0, .ref 3000000), (1, .ref 0), (2, .ref 206), (3, .ref 305), (4, .int a4)], [.int (a4 + 3), .ref 3000000, .int (y 2), .int (y 1), .ref 206, .int z0], rf_MM w m0x)) (by decide +kernel) rfl trivial ?_
  refine rf_scr B hs.2.2.2.1 (by decide +kernel) ?_
  refine rf_seg B.1.1 [(.aload 0, 1), (.iload 4, 2), (.iconst 4, 1), (.iadd, 1)] (pc' := 1011) (S' := ([(0, .ref 3000000), (1, .ref 0), (2, .ref 206), (3, .ref 305), (4, .int a4)], [.int (a4 + 4), .ref 3000000, .int (y 3), .int (y 2), .int (y 1), .ref 206, .int z0], rf_MM w m0x)) (by decide +kernel) rfl trivial ?_
  refine rf_scr B hs.2.2.2.2.1 (by decide +kernel) ?_
  refine rf_seg B.1.1 [(.aload 0, 1), (.iload 4, 2), (.iconst 5, 1), (.iadd, 1)] (pc' := 1017) (S' := ([(0, .ref 3000000), (1, .ref 0), (2, .ref 206), (3, .ref 305), (4, .int a4)], [.int (a4 + 5), .ref 3000000, .int (y 4), .int (y 3), .int (y 2), .int (y 1), .ref 206, .int z0], rf_MM w m0x)) (by decide +kernel) rfl trivial ?_
  refine rf_scr B hs.2.2.2.2.2.1 (by decide +kernel) ?_
  obtain ⟨z1, m1x, h1, hg⟩ := rf_b_some hg
  refine rf_callv (idx := 93) B.1.1 (rf_LB_fit B (by omega) (by omega)) j_X14_feed (ci := 14) (As := [.int (y 1), .int (y 2), .int (y 3), .int (y 4), .int (y 5)]) (rest := [.int z0]) mw_X14_feed (c_X14_feed h1) (by decide) rfl (by decide) (rf_mem 35 (by decide +kernel)) rfl rfl (Nat.le_of_ble_eq_true rfl) (by decide +kernel) ?_
  show rf_V 7 (rf_sh w) K cells slots 1021 ([(0, .ref 3000000), (1, .ref 0), (2, .ref 206), (3, .ref 305), (4, .int a4)], [.int z1, .int z0], rf_MM w m1x)
  obtain ⟨q1, hg⟩ := rf_g_some hg
  obtain ⟨rfl, rfl⟩ := Prod.mk.inj (Option.some.inj hg)
  refine rf_icmp_eq B.1.1 1591 2612 (by decide +kernel) (fun _ => ?_) (fun hc => absurd (of_decide_eq_true q1) hc)
  refine rf_V_wide (c' := cells + 3) (s' := slots + 3072) (by omega) (by omega) ?_
  exact k _ B
