/-! the law's cases (written by wip/tool/gen_law.py) -/
def g_lc_5 (w : rf_w) (m : rf_m) (y : Nat → Int32) : Option (rf_w × rf_m) := rf_b (g_X11_see w m (y 1) (y 2) (y 3) (y 4)) fun z0 m0x => rf_b (g_X14_see w m0x (y 1) (y 2) (y 3) (y 4)) fun z1 m1x => rf_g (decide (z0 = z1)) (some (w, m1x))
theorem lc_5 {b L mc ms : Nat} {xs y : Nat → Int32} {w w2 : rf_w} {m m2 : rf_m} {K : rf_K} {cells slots : Nat} {a4 : Int32} (B : rf_LB b L xs mc ms w K) (hs : rf_Sc xs L a4 y) (hc : cells + 3 ≤ mc) (hsl : slots + 3072 ≤ ms) (hg : g_lc_5 w m y = some (w2, m2)) (k : ∀ K', rf_LB b L xs mc ms w2 K' → rf_V 7 (rf_sh w2) K' (cells + 3) (slots + 3072) 2612 ([(0, .ref 3000000), (1, .ref 0), (2, .ref 206), (3, .ref 305), (4, .int a4)], [], rf_MM w2 m2)) : rf_V 7 (rf_sh w) K cells slots 497 ([(0, .ref 3000000), (1, .ref 0), (2, .ref 206), (3, .ref 305), (4, .int a4)], [], rf_MM w m) := by
  unfold g_lc_5 at hg
  refine rf_seg B.1.1 [(.aload 1, 1), (.aload 0, 1), (.iload 4, 2), (.iconst 1, 1), (.iadd, 1)] (pc' := 503) (S' := ([(0, .ref 3000000), (1, .ref 0), (2, .ref 206), (3, .ref 305), (4, .int a4)], [.int (a4 + 1), .ref 3000000, .ref 0], rf_MM w m)) (by decide +kernel) rfl trivial ?_
  refine rf_scr B hs.2.1 (by decide +kernel) ?_
  refine rf_seg B.1.1 [(.aload 0, 1), (.iload 4, 2), (.iconst 2, 1), (.iadd, 1)] (pc' := 509) (S' := ([(0, .ref 3000000), (1, .ref 0), (2, .ref 206), (3, .ref 305), (4, .int a4)], [.int (a4 + 2), .ref 3000000, .int (y 1), .ref 0], rf_MM w m)) (by decide +kernel) rfl trivial ?_
  refine rf_scr B hs.2.2.1 (by decide +kernel) ?_
  refine rf_seg B.1.1 [(.aload 0, 1), (.iload 4, 2), (.iconst 3, 1), (.iadd, 1)] (pc' := 515) (S' := ([(0, .ref 3000000), (1, .ref 0), (2, .ref 206), (3, .ref 305), (4, .int a4)], [.int (a4 + 3), .ref 3000000, .int (y 2), .int (y 1), .ref 0], rf_MM w m)) (by decide +kernel) rfl trivial ?_
  refine rf_scr B hs.2.2.2.1 (by decide +kernel) ?_
  refine rf_seg B.1.1 [(.aload 0, 1), (.iload 4, 2), (.iconst 4, 1), (.iadd, 1)] (pc' := 521) (S' := ([(0, .ref 3000000), (1, .ref 0), (2, .ref 206), (3, .ref 305), (4, .int a4)], [.int (a4 + 4), .ref 3000000, .int (y 3), .int (y 2), .int (y 1), .ref 0], rf_MM w m)) (by decide +kernel) rfl trivial ?_
  refine rf_scr B hs.2.2.2.2.1 (by decide +kernel) ?_
  obtain ⟨z0, m0x, h0, hg⟩ := rf_b_some hg
  refine rf_callv (idx := 43) B.1.1 (rf_LB_fit B (by omega) (by omega)) j_X11_see (ci := 11) (As := [.int (y 1), .int (y 2), .int (y 3), .int (y 4)]) (rest := []) mw_X11_see (c_X11_see h0) (by decide) rfl (by decide) (rf_mem 19 (by decide +kernel)) rfl rfl (Nat.le_of_ble_eq_true rfl) (by decide +kernel) ?_
  show rf_V 7 (rf_sh w) K cells slots 525 ([(0, .ref 3000000), (1, .ref 0), (2, .ref 206), (3, .ref 305), (4, .int a4)], [.int z0], rf_MM w m0x)
  refine rf_seg B.1.1 [(.aload 2, 1), (.aload 0, 1), (.iload 4, 2), (.iconst 1, 1), (.iadd, 1)] (pc' := 531) (S' := ([(0, .ref 3000000), (1, .ref 0), (2, .ref 206), (3, .ref 305), (4, .int a4)], [.int (a4 + 1), .ref 3000000, .ref 206, .int z0], rf_MM w m0x)) (by decide +kernel) rfl trivial ?_
  refine rf_scr B hs.2.1 (by decide +kernel) ?_
  refine rf_seg B.1.1 [(.aload 0, 1), (.iload 4, 2), (.iconst 2, 1), (.iadd, 1)] (pc' := 537) (S' := ([(0, .ref 3000000), (1, .ref 0), (2, .ref 206), (3, .ref 305), (4, .int a4)], [.int (a4 + 2), .ref 3000000, .int (y 1), .ref 206, .int z0], rf_MM w m0x)) (by decide +kernel) rfl trivial ?_
  refine rf_scr B hs.2.2.1 (by decide +kernel) ?_
  refine rf_seg B.1.1 [(.aload 0, 1), (.iload 4, 2), (.iconst 3, 1), (.iadd, 1)] (pc' := 543) (S' := ([(0, .ref 3000000), (1, .ref 0), (2, .ref 206), (3, .ref 305), (4, .int a4)], [.int (a4 + 3), .ref 3000000, .int (y 2), .int (y 1), .ref 206, .int z0], rf_MM w m0x)) (by decide +kernel) rfl trivial ?_
  refine rf_scr B hs.2.2.2.1 (by decide +kernel) ?_
  refine rf_seg B.1.1 [(.aload 0, 1), (.iload 4, 2), (.iconst 4, 1), (.iadd, 1)] (pc' := 549) (S' := ([(0, .ref 3000000), (1, .ref 0), (2, .ref 206), (3, .ref 305), (4, .int a4)], [.int (a4 + 4), .ref 3000000, .int (y 3), .int (y 2), .int (y 1), .ref 206, .int z0], rf_MM w m0x)) (by decide +kernel) rfl trivial ?_
  refine rf_scr B hs.2.2.2.2.1 (by decide +kernel) ?_
  obtain ⟨z1, m1x, h1, hg⟩ := rf_b_some hg
  refine rf_callv (idx := 47) B.1.1 (rf_LB_fit B (by omega) (by omega)) j_X14_see (ci := 14) (As := [.int (y 1), .int (y 2), .int (y 3), .int (y 4)]) (rest := [.int z0]) mw_X14_see (c_X14_see h1) (by decide) rfl (by decide) (rf_mem 20 (by decide +kernel)) rfl rfl (Nat.le_of_ble_eq_true rfl) (by decide +kernel) ?_
  show rf_V 7 (rf_sh w) K cells slots 553 ([(0, .ref 3000000), (1, .ref 0), (2, .ref 206), (3, .ref 305), (4, .int a4)], [.int z1, .int z0], rf_MM w m1x)
  obtain ⟨q1, hg⟩ := rf_g_some hg
  obtain ⟨rfl, rfl⟩ := Prod.mk.inj (Option.some.inj hg)
  refine rf_icmp_eq B.1.1 2059 2612 (by decide +kernel) (fun _ => ?_) (fun hc => absurd (of_decide_eq_true q1) hc)
  refine rf_V_wide (c' := cells + 3) (s' := slots + 3072) (by omega) (by omega) ?_
  exact k _ B
def g_lc_6 (w : rf_w) (m : rf_m) (y : Nat → Int32) : Option (rf_w × rf_m) := rf_b (g_X11_party w m (rf_bz (y 1))) fun z0 m0x => rf_b (g_X14_party w m0x (rf_bz (y 1))) fun z1 m1x => rf_g (decide (z0 = z1)) (some (w, m1x))
theorem lc_6 {b L mc ms : Nat} {xs y : Nat → Int32} {w w2 : rf_w} {m m2 : rf_m} {K : rf_K} {cells slots : Nat} {a4 : Int32} (B : rf_LB b L xs mc ms w K) (hs : rf_Sc xs L a4 y) (hc : cells + 3 ≤ mc) (hsl : slots + 3072 ≤ ms) (hg : g_lc_6 w m y = some (w2, m2)) (k : ∀ K', rf_LB b L xs mc ms w2 K' → rf_V 7 (rf_sh w2) K' (cells + 3) (slots + 3072) 2612 ([(0, .ref 3000000), (1, .ref 0), (2, .ref 206), (3, .ref 305), (4, .int a4)], [], rf_MM w2 m2)) : rf_V 7 (rf_sh w) K cells slots 558 ([(0, .ref 3000000), (1, .ref 0), (2, .ref 206), (3, .ref 305), (4, .int a4)], [], rf_MM w m) := by
  unfold g_lc_6 at hg
  refine rf_seg B.1.1 [(.aload 1, 1), (.aload 0, 1), (.iload 4, 2), (.iconst 1, 1), (.iadd, 1)] (pc' := 564) (S' := ([(0, .ref 3000000), (1, .ref 0), (2, .ref 206), (3, .ref 305), (4, .int a4)], [.int (a4 + 1), .ref 3000000, .ref 0], rf_MM w m)) (by decide +kernel) rfl trivial ?_
  refine rf_scr B hs.2.1 (by decide +kernel) ?_
  refine rf_bool B.1.1 ⟨by decide +kernel, by decide +kernel, by decide +kernel, by decide +kernel⟩ ?_
  obtain ⟨z0, m0x, h0, hg⟩ := rf_b_some hg
  refine rf_callv (idx := 48) B.1.1 (rf_LB_fit B (by omega) (by omega)) j_X11_party (ci := 11) (As := [.int (rf_bz (y 1))]) (rest := []) mw_X11_party (c_X11_party h0) (by decide) rfl (by decide) (rf_mem 21 (by decide +kernel)) rfl rfl (Nat.le_of_ble_eq_true rfl) (by decide +kernel) ?_
  show rf_V 7 (rf_sh w) K cells slots 576 ([(0, .ref 3000000), (1, .ref 0), (2, .ref 206), (3, .ref 305), (4, .int a4)], [.int z0], rf_MM w m0x)
  refine rf_seg B.1.1 [(.aload 2, 1), (.aload 0, 1), (.iload 4, 2), (.iconst 1, 1), (.iadd, 1)] (pc' := 582) (S' := ([(0, .ref 3000000), (1, .ref 0), (2, .ref 206), (3, .ref 305), (4, .int a4)], [.int (a4 + 1), .ref 3000000, .ref 206, .int z0], rf_MM w m0x)) (by decide +kernel) rfl trivial ?_
  refine rf_scr B hs.2.1 (by decide +kernel) ?_
  refine rf_bool B.1.1 ⟨by decide +kernel, by decide +kernel, by decide +kernel, by decide +kernel⟩ ?_
  obtain ⟨z1, m1x, h1, hg⟩ := rf_b_some hg
  refine rf_callv (idx := 52) B.1.1 (rf_LB_fit B (by omega) (by omega)) j_X14_party (ci := 14) (As := [.int (rf_bz (y 1))]) (rest := [.int z0]) mw_X14_party (c_X14_party h1) (by decide) rfl (by decide) (rf_mem 21 (by decide +kernel)) rfl rfl (Nat.le_of_ble_eq_true rfl) (by decide +kernel) ?_
  show rf_V 7 (rf_sh w) K cells slots 594 ([(0, .ref 3000000), (1, .ref 0), (2, .ref 206), (3, .ref 305), (4, .int a4)], [.int z1, .int z0], rf_MM w m1x)
  obtain ⟨q1, hg⟩ := rf_g_some hg
  obtain ⟨rfl, rfl⟩ := Prod.mk.inj (Option.some.inj hg)
  refine rf_icmp_eq B.1.1 2018 2612 (by decide +kernel) (fun _ => ?_) (fun hc => absurd (of_decide_eq_true q1) hc)
  refine rf_V_wide (c' := cells + 3) (s' := slots + 3072) (by omega) (by omega) ?_
  exact k _ B
def g_lc_7 (w : rf_w) (m : rf_m) (y : Nat → Int32) : Option (rf_w × rf_m) := rf_b (g_X11_angle w m (y 1) (y 2) (y 3)) fun z0 m0x => rf_b (g_X14_angle w m0x (y 1) (y 2) (y 3)) fun z1 m1x => rf_g (decide (z0 = z1)) (some (w, m1x))
theorem lc_7 {b L mc ms : Nat} {xs y : Nat → Int32} {w w2 : rf_w} {m m2 : rf_m} {K : rf_K} {cells slots : Nat} {a4 : Int32} (B : rf_LB b L xs mc ms w K) (hs : rf_Sc xs L a4 y) (hc : cells + 3 ≤ mc) (hsl : slots + 3072 ≤ ms) (hg : g_lc_7 w m y = some (w2, m2)) (k : ∀ K', rf_LB b L xs mc ms w2 K' → rf_V 7 (rf_sh w2) K' (cells + 3) (slots + 3072) 2612 ([(0, .ref 3000000), (1, .ref 0), (2, .ref 206), (3, .ref 305), (4, .int a4)], [], rf_MM w2 m2)) : rf_V 7 (rf_sh w) K cells slots 599 ([(0, .ref 3000000), (1, .ref 0), (2, .ref 206), (3, .ref 305), (4, .int a4)], [], rf_MM w m) := by
  unfold g_lc_7 at hg
  refine rf_seg B.1.1 [(.aload 1, 1), (.aload 0, 1), (.iload 4, 2), (.iconst 1, 1), (.iadd, 1)] (pc' := 605) (S' := ([(0, .ref 3000000), (1, .ref 0), (2, .ref 206), (3, .ref 305), (4, .int a4)], [.int (a4 + 1), .ref 3000000, .ref 0], rf_MM w m)) (by decide +kernel) rfl trivial ?_
  refine rf_scr B hs.2.1 (by decide +kernel) ?_
  refine rf_seg B.1.1 [(.aload 0, 1), (.iload 4, 2), (.iconst 2, 1), (.iadd, 1)] (pc' := 611) (S' := ([(0, .ref 3000000), (1, .ref 0), (2, .ref 206), (3, .ref 305), (4, .int a4)], [.int (a4 + 2), .ref 3000000, .int (y 1), .ref 0], rf_MM w m)) (by decide +kernel) rfl trivial ?_
  refine rf_scr B hs.2.2.1 (by decide +kernel) ?_
  refine rf_seg B.1.1 [(.aload 0, 1), (.iload 4, 2), (.iconst 3, 1), (.iadd, 1)] (pc' := 617) (S' := ([(0, .ref 3000000), (1, .ref 0), (2, .ref 206), (3, .ref 305), (4, .int a4)], [.int (a4 + 3), .ref 3000000, .int (y 2), .int (y 1), .ref 0], rf_MM w m)) (by decide +kernel) rfl trivial ?_
  refine rf_scr B hs.2.2.2.1 (by decide +kernel) ?_
  obtain ⟨z0, m0x, h0, hg⟩ := rf_b_some hg
  refine rf_callv (idx := 53) B.1.1 (rf_LB_fit B (by omega) (by omega)) j_X11_angle (ci := 11) (As := [.int (y 1), .int (y 2), .int (y 3)]) (rest := []) mw_X11_angle (c_X11_angle h0) (by decide) rfl (by decide) (rf_mem 22 (by decide +kernel)) rfl rfl (Nat.le_of_ble_eq_true rfl) (by decide +kernel) ?_
  show rf_V 7 (rf_sh w) K cells slots 621 ([(0, .ref 3000000), (1, .ref 0), (2, .ref 206), (3, .ref 305), (4, .int a4)], [.int z0], rf_MM w m0x)
  refine rf_seg B.1.1 [(.aload 2, 1), (.aload 0, 1), (.iload 4, 2), (.iconst 1, 1), (.iadd, 1)] (pc' := 627) (S' := ([(0, .ref 3000000), (1, .ref 0), (2, .ref 206), (3, .ref 305), (4, .int a4)], [.int (a4 + 1), .ref 3000000, .ref 206, .int z0], rf_MM w m0x)) (by decide +kernel) rfl trivial ?_
  refine rf_scr B hs.2.1 (by decide +kernel) ?_
  refine rf_seg B.1.1 [(.aload 0, 1), (.iload 4, 2), (.iconst 2, 1), (.iadd, 1)] (pc' := 633) (S' := ([(0, .ref 3000000), (1, .ref 0), (2, .ref 206), (3, .ref 305), (4, .int a4)], [.int (a4 + 2), .ref 3000000, .int (y 1), .ref 206, .int z0], rf_MM w m0x)) (by decide +kernel) rfl trivial ?_
  refine rf_scr B hs.2.2.1 (by decide +kernel) ?_
  refine rf_seg B.1.1 [(.aload 0, 1), (.iload 4, 2), (.iconst 3, 1), (.iadd, 1)] (pc' := 639) (S' := ([(0, .ref 3000000), (1, .ref 0), (2, .ref 206), (3, .ref 305), (4, .int a4)], [.int (a4 + 3), .ref 3000000, .int (y 2), .int (y 1), .ref 206, .int z0], rf_MM w m0x)) (by decide +kernel) rfl trivial ?_
  refine rf_scr B hs.2.2.2.1 (by decide +kernel) ?_
  obtain ⟨z1, m1x, h1, hg⟩ := rf_b_some hg
  refine rf_callv (idx := 57) B.1.1 (rf_LB_fit B (by omega) (by omega)) j_X14_angle (ci := 14) (As := [.int (y 1), .int (y 2), .int (y 3)]) (rest := [.int z0]) mw_X14_angle (c_X14_angle h1) (by decide) rfl (by decide) (rf_mem 22 (by decide +kernel)) rfl rfl (Nat.le_of_ble_eq_true rfl) (by decide +kernel) ?_
  show rf_V 7 (rf_sh w) K cells slots 643 ([(0, .ref 3000000), (1, .ref 0), (2, .ref 206), (3, .ref 305), (4, .int a4)], [.int z1, .int z0], rf_MM w m1x)
  obtain ⟨q1, hg⟩ := rf_g_some hg
  obtain ⟨rfl, rfl⟩ := Prod.mk.inj (Option.some.inj hg)
  refine rf_icmp_eq B.1.1 1969 2612 (by decide +kernel) (fun _ => ?_) (fun hc => absurd (of_decide_eq_true q1) hc)
  refine rf_V_wide (c' := cells + 3) (s' := slots + 3072) (by omega) (by omega) ?_
  exact k _ B
def g_lc_8 (w : rf_w) (m : rf_m) (y : Nat → Int32) : Option (rf_w × rf_m) := rf_b (g_X11_read w m (y 1) (y 2) (y 3) (y 4)) fun z0 m0x => rf_b (g_X14_read_0 w (y 1) (y 2) (y 3) (y 4) m0x) fun z1 m1x => rf_g (decide (z0 = z1)) (some (w, m1x))
theorem lc_8 {b L mc ms : Nat} {xs y : Nat → Int32} {w w2 : rf_w} {m m2 : rf_m} {K : rf_K} {cells slots : Nat} {a4 : Int32} (B : rf_LB b L xs mc ms w K) (hs : rf_Sc xs L a4 y) (hc : cells + 3 ≤ mc) (hsl : slots + 3072 ≤ ms) (hg : g_lc_8 w m y = some (w2, m2)) (k : ∀ K', rf_LB b L xs mc ms w2 K' → rf_V 7 (rf_sh w2) K' (cells + 3) (slots + 3072) 2612 ([(0, .ref 3000000), (1, .ref 0), (2, .ref 206), (3, .ref 305), (4, .int a4)], [], rf_MM w2 m2)) : rf_V 7 (rf_sh w) K cells slots 648 ([(0, .ref 3000000), (1, .ref 0), (2, .ref 206), (3, .ref 305), (4, .int a4)], [], rf_MM w m) := by
  unfold g_lc_8 at hg
  refine rf_seg B.1.1 [(.aload 1, 1), (.aload 0, 1), (.iload 4, 2), (.iconst 1, 1), (.iadd, 1)] (pc' := 654) (S' := ([(0, .ref 3000000), (1, .ref 0), (2, .ref 206), (3, .ref 305), (4, .int a4)], [.int (a4 + 1), .ref 3000000, .ref 0], rf_MM w m)) (by decide +kernel) rfl trivial ?_
  refine rf_scr B hs.2.1 (by decide +kernel) ?_
  refine rf_seg B.1.1 [(.aload 0, 1), (.iload 4, 2), (.iconst 2, 1), (.iadd, 1)] (pc' := 660) (S' := ([(0, .ref 3000000), (1, .ref 0), (2, .ref 206), (3, .ref 305), (4, .int a4)], [.int (a4 + 2), .ref 3000000, .int (y 1), .ref 0], rf_MM w m)) (by decide +kernel) rfl trivial ?_
  refine rf_scr B hs.2.2.1 (by decide +kernel) ?_
  refine rf_seg B.1.1 [(.aload 0, 1), (.iload 4, 2), (.iconst 3, 1), (.iadd, 1)] (pc' := 666) (S' := ([(0, .ref 3000000), (1, .ref 0), (2, .ref 206), (3, .ref 305), (4, .int a4)], [.int (a4 + 3), .ref 3000000, .int (y 2), .int (y 1), .ref 0], rf_MM w m)) (by decide +kernel) rfl trivial ?_
  refine rf_scr B hs.2.2.2.1 (by decide +kernel) ?_
  refine rf_seg B.1.1 [(.aload 0, 1), (.iload 4, 2), (.iconst 4, 1), (.iadd, 1)] (pc' := 672) (S' := ([(0, .ref 3000000), (1, .ref 0), (2, .ref 206), (3, .ref 305), (4, .int a4)], [.int (a4 + 4), .ref 3000000, .int (y 3), .int (y 2), .int (y 1), .ref 0], rf_MM w m)) (by decide +kernel) rfl trivial ?_
  refine rf_scr B hs.2.2.2.2.1 (by decide +kernel) ?_
  obtain ⟨z0, m0x, h0, hg⟩ := rf_b_some hg
  refine rf_callv (idx := 58) B.1.1 (rf_LB_fit B (by omega) (by omega)) j_X11_read (ci := 11) (As := [.int (y 1), .int (y 2), .int (y 3), .int (y 4)]) (rest := []) mw_X11_read (c_X11_read h0) (by decide) rfl (by decide) (rf_mem 22 (by decide +kernel)) rfl rfl (Nat.le_of_ble_eq_true rfl) (by decide +kernel) ?_
  show rf_V 7 (rf_sh w) K cells slots 676 ([(0, .ref 3000000), (1, .ref 0), (2, .ref 206), (3, .ref 305), (4, .int a4)], [.int z0], rf_MM w m0x)
  refine rf_seg B.1.1 [(.aload 2, 1), (.aload 0, 1), (.iload 4, 2), (.iconst 1, 1), (.iadd, 1)] (pc' := 682) (S' := ([(0, .ref 3000000), (1, .ref 0), (2, .ref 206), (3, .ref 305), (4, .int a4)], [.int (a4 + 1), .ref 3000000, .ref 206, .int z0], rf_MM w m0x)) (by decide +kernel) rfl trivial ?_
  refine rf_scr B hs.2.1 (by decide +kernel) ?_
  refine rf_seg B.1.1 [(.aload 0, 1), (.iload 4, 2), (.iconst 2, 1), (.iadd, 1)] (pc' := 688) (S' := ([(0, .ref 3000000), (1, .ref 0), (2, .ref 206), (3, .ref 305), (4, .int a4)], [.int (a4 + 2), .ref 3000000, .int (y 1), .ref 206, .int z0], rf_MM w m0x)) (by decide +kernel) rfl trivial ?_
  refine rf_scr B hs.2.2.1 (by decide +kernel) ?_
  refine rf_seg B.1.1 [(.aload 0, 1), (.iload 4, 2), (.iconst 3, 1), (.iadd, 1)] (pc' := 694) (S' := ([(0, .ref 3000000), (1, .ref 0), (2, .ref 206), (3, .ref 305), (4, .int a4)], [.int (a4 + 3), .ref 3000000, .int (y 2), .int (y 1), .ref 206, .int z0], rf_MM w m0x)) (by decide +kernel) rfl trivial ?_
  refine rf_scr B hs.2.2.2.1 (by decide +kernel) ?_
  refine rf_seg B.1.1 [(.aload 0, 1), (.iload 4, 2), (.iconst 4, 1), (.iadd, 1)] (pc' := 700) (S' := ([(0, .ref 3000000), (1, .ref 0), (2, .ref 206), (3, .ref 305), (4, .int a4)], [.int (a4 + 4), .ref 3000000, .int (y 3), .int (y 2), .int (y 1), .ref 206, .int z0], rf_MM w m0x)) (by decide +kernel) rfl trivial ?_
  refine rf_scr B hs.2.2.2.2.1 (by decide +kernel) ?_
  obtain ⟨z1, m1x, h1, hg⟩ := rf_b_some hg
  refine rf_callvD (idx := 61) B (rf_LB_fit B (by omega) (by omega)) j_X14_read (ci := 14) (As := [.int (y 1), .int (y 2), .int (y 3), .int (y 4)]) (rest := [.int z0]) mw_X14_read (c_X14_read h1) (by decide) rfl (by decide) (rf_mem 24 (by decide +kernel)) rfl rfl (Nat.le_of_ble_eq_true rfl) (by decide +kernel) (fun K B => ?_)
  show rf_V 7 (rf_sh w) K cells slots 704 ([(0, .ref 3000000), (1, .ref 0), (2, .ref 206), (3, .ref 305), (4, .int a4)], [.int z1, .int z0], rf_MM w m1x)
  obtain ⟨q1, hg⟩ := rf_g_some hg
  obtain ⟨rfl, rfl⟩ := Prod.mk.inj (Option.some.inj hg)
  refine rf_icmp_eq B.1.1 1908 2612 (by decide +kernel) (fun _ => ?_) (fun hc => absurd (of_decide_eq_true q1) hc)
  refine rf_V_wide (c' := cells + 3) (s' := slots + 3072) (by omega) (by omega) ?_
  exact k _ B
def g_lc_9 (w : rf_w) (m : rf_m) (y : Nat → Int32) : Option (rf_w × rf_m) := rf_b (g_X11_reading w m (y 1) (y 2)) fun z0 m0x => rf_b (g_X14_reading w m0x (y 1) (y 2)) fun z1 m1x => rf_g (decide (z0 = z1)) (some (w, m1x))
theorem lc_9 {b L mc ms : Nat} {xs y : Nat → Int32} {w w2 : rf_w} {m m2 : rf_m} {K : rf_K} {cells slots : Nat} {a4 : Int32} (B : rf_LB b L xs mc ms w K) (hs : rf_Sc xs L a4 y) (hc : cells + 3 ≤ mc) (hsl : slots + 3072 ≤ ms) (hg : g_lc_9 w m y = some (w2, m2)) (k : ∀ K', rf_LB b L xs mc ms w2 K' → rf_V 7 (rf_sh w2) K' (cells + 3) (slots + 3072) 2612 ([(0, .ref 3000000), (1, .ref 0), (2, .ref 206), (3, .ref 305), (4, .int a4)], [], rf_MM w2 m2)) : rf_V 7 (rf_sh w) K cells slots 709 ([(0, .ref 3000000), (1, .ref 0), (2, .ref 206), (3, .ref 305), (4, .int a4)], [], rf_MM w m) := by
  unfold g_lc_9 at hg
  refine rf_seg B.1.1 [(.aload 1, 1), (.aload 0, 1), (.iload 4, 2), (.iconst 1, 1), (.iadd, 1)] (pc' := 715) (S' := ([(0, .ref 3000000), (1, .ref 0), (2, .ref 206), (3, .ref 305), (4, .int a4)], [.int (a4 + 1), .ref 3000000, .ref 0], rf_MM w m)) (by decide +kernel) rfl trivial ?_
  refine rf_scr B hs.2.1 (by decide +kernel) ?_
  refine rf_seg B.1.1 [(.aload 0, 1), (.iload 4, 2), (.iconst 2, 1), (.iadd, 1)] (pc' := 721) (S' := ([(0, .ref 3000000), (1, .ref 0), (2, .ref 206), (3, .ref 305), (4, .int a4)], [.int (a4 + 2), .ref 3000000, .int (y 1), .ref 0], rf_MM w m)) (by decide +kernel) rfl trivial ?_
  refine rf_scr B hs.2.2.1 (by decide +kernel) ?_
  obtain ⟨z0, m0x, h0, hg⟩ := rf_b_some hg
  refine rf_callv (idx := 62) B.1.1 (rf_LB_fit B (by omega) (by omega)) j_X11_reading (ci := 11) (As := [.int (y 1), .int (y 2)]) (rest := []) mw_X11_reading (c_X11_reading h0) (by decide) rfl (by decide) (rf_mem 25 (by decide +kernel)) rfl rfl (Nat.le_of_ble_eq_true rfl) (by decide +kernel) ?_
  show rf_V 7 (rf_sh w) K cells slots 725 ([(0, .ref 3000000), (1, .ref 0), (2, .ref 206), (3, .ref 305), (4, .int a4)], [.int z0], rf_MM w m0x)
  refine rf_seg B.1.1 [(.aload 2, 1), (.aload 0, 1), (.iload 4, 2), (.iconst 1, 1), (.iadd, 1)] (pc' := 731) (S' := ([(0, .ref 3000000), (1, .ref 0), (2, .ref 206), (3, .ref 305), (4, .int a4)], [.int (a4 + 1), .ref 3000000, .ref 206, .int z0], rf_MM w m0x)) (by decide +kernel) rfl trivial ?_
  refine rf_scr B hs.2.1 (by decide +kernel) ?_
  refine rf_seg B.1.1 [(.aload 0, 1), (.iload 4, 2), (.iconst 2, 1), (.iadd, 1)] (pc' := 737) (S' := ([(0, .ref 3000000), (1, .ref 0), (2, .ref 206), (3, .ref 305), (4, .int a4)], [.int (a4 + 2), .ref 3000000, .int (y 1), .ref 206, .int z0], rf_MM w m0x)) (by decide +kernel) rfl trivial ?_
  refine rf_scr B hs.2.2.1 (by decide +kernel) ?_
  obtain ⟨z1, m1x, h1, hg⟩ := rf_b_some hg
  refine rf_callv (idx := 65) B.1.1 (rf_LB_fit B (by omega) (by omega)) j_X14_reading (ci := 14) (As := [.int (y 1), .int (y 2)]) (rest := [.int z0]) mw_X14_reading (c_X14_reading h1) (by decide) rfl (by decide) (rf_mem 28 (by decide +kernel)) rfl rfl (Nat.le_of_ble_eq_true rfl) (by decide +kernel) ?_
  show rf_V 7 (rf_sh w) K cells slots 741 ([(0, .ref 3000000), (1, .ref 0), (2, .ref 206), (3, .ref 305), (4, .int a4)], [.int z1, .int z0], rf_MM w m1x)
  obtain ⟨q1, hg⟩ := rf_g_some hg
  obtain ⟨rfl, rfl⟩ := Prod.mk.inj (Option.some.inj hg)
  refine rf_icmp_eq B.1.1 1871 2612 (by decide +kernel) (fun _ => ?_) (fun hc => absurd (of_decide_eq_true q1) hc)
  refine rf_V_wide (c' := cells + 3) (s' := slots + 3072) (by omega) (by omega) ?_
  exact k _ B
